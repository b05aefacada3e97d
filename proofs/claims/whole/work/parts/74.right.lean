-- 29 right: the model's steps from all codes to that of all right, as a table
def eT (k : Nat) : Nat := (60720583087573027540837496360149222557496249633559563117075452556148974013555849969348437966308056696912412413538898618245659812975523033154347603599567447379541264389814713416964564007318956451615484993259984874398276067947984953912203628978283940956607994453007188369982502302547266677078569259348348624218409023731473021721948529415650931999279175065570781829440734628435312241414305710498325305081250002032627119213978966781097791949607162965295662210149462400257372015892174618330425691808337012361040306352469121317860518351906934082963159218150168274845701473991116097357044868659645796560507275481220324440507948705141880589370710979777482277622799294107027953079558951082198665704636012468787195588923718613047568084144697614756516464461922448802901581971196254503107625994820266633461014399353640090804779361308950470094449299401621992746673307222112100869520227789233297217835310234012164264043963327247966324976869760307490992819351473168013521298332572410634060748437120911327207718648513858676700991675504084124953411453255723412592256947563989981082776429819130339 >>> (7 * k)) % 128
theorem eT_b : (List.range 512).all (fun k => (List.range 4).all (fun t => decide (eT k ≤ eT (tr k t) + 1))) = true := by decide +kernel
theorem eT_c : (List.range 512).all (fun k => decide (eT k = 99) || (decide (eT k = 0) && decide (k = 27)) || (decide (0 < eT k) && decide (eT k ≤ 8) && (List.range 4).any (fun t => decide (eT (tr k t) + 1 = eT k)))) = true := by decide +kernel
theorem eT_0 : eT 27 = 0 := by decide +kernel
theorem eT_2 {k t : Nat} (hk : k < 512) (ht : t < 4) : eT k ≤ eT (tr k t) + 1 := of_decide_eq_true (List.all_eq_true.mp (List.all_eq_true.mp eT_b k (List.mem_range.mpr hk)) t (List.mem_range.mpr ht))
theorem eT_3 {k : Nat} (hk : k < 512) : eT k = 99 ∨ (eT k = 0 ∧ k = 27) ∨ (0 < eT k ∧ eT k ≤ 8 ∧ ∃ t, t < 4 ∧ eT (tr k t) + 1 = eT k) := by
  have h := List.all_eq_true.mp eT_c k (List.mem_range.mpr hk)
  simp only [Bool.or_eq_true, Bool.and_eq_true, decide_eq_true_eq, List.any_eq_true, List.mem_range] at h
  rcases h with (q | q) | q
  · exact Or.inl q
  · exact Or.inr (Or.inl q)
  · exact Or.inr (Or.inr ⟨q.1.1, q.1.2, q.2⟩)
theorem eT_le {k : Nat} (hk : k < 512) : eT k ≤ 99 := by rcases eT_3 hk with q | q | q <;> omega
section THW
variable {a : HS} {h : MH}
theorem m_thinkW (R : RepM a h.1) (hl : hLie a < 512) : ∃ h', F_M_think h = some h' ∧ RepT (hLie a) h'.1 ∧ FrW h h' := by
  have r0 := rm_l R (c := 0) (by omega)
  have r1 := rm_l R (c := 1) (by omega)
  have r2 := rm_l R (c := 2) (by omega)
  have r3 := rm_l R (c := 3) (by omega)
  have ro := rm_o R
  have z0 : (0 : Int).toNat = 0 := rfl
  have z1 : (0 + 1 : Int).toNat = 1 := rfl
  have z2 : (0 + 1 + 1 : Int).toNat = 2 := rfl
  have z3 : (0 + 1 + 1 + 1 : Int).toNat = 3 := rfl
  have g : ∀ n, L_M_think_2 (n + 1 + 1 + 1 + 1 + 1) (I 0) h = some (mm_hset (mm_hset (mm_hset (mm_hset h.1 63 0 (h.1 61 0)) 63 1 (h.1 61 1)) 63 2 (h.1 61 2)) 63 3 (h.1 61 3), h.2) := by
    intro n
    simp (disch := omega) only [L_M_think_2, I_le, I_add, if_neg (show ¬ (4 : Int) ≤ 0 by omega), if_neg (show ¬ (4 : Int) ≤ 0 + 1 by omega), if_neg (show ¬ (4 : Int) ≤ 0 + 1 + 1 by omega), if_neg (show ¬ (4 : Int) ≤ 0 + 1 + 1 + 1 by omega), if_pos (show (4 : Int) ≤ 0 + 1 + 1 + 1 + 1 by omega), ck_in, I_nat, z0, z1, z2, z3, hw_s, hs_ne]
  have g' : L_M_think_2 5000 (I 0) h = _ := g 4995
  have bit : (h.1 55 9 &&& 1) = h.1 55 9 := by
    rw [ro]
    rcases (show hLie a / 256 = 0 ∨ hLie a / 256 = 1 by omega) with q | q <;> rw [q] <;> decide
  refine ⟨(mm_hset (mm_hset (mm_hset (mm_hset (mm_hset h.1 63 0 (h.1 61 0)) 63 1 (h.1 61 1)) 63 2 (h.1 61 2)) 63 3 (h.1 61 3)) 55 13 (h.1 55 9), h.2), ?_, ⟨?_, fun c hc => ?_⟩, ⟨rfl, fun k i e1 e2 => ?_⟩⟩
  · simp (disch := omega) only [F_M_think, g', bd_s, hs_ne, hw_s]
    exact cd_t bit
  · simp only [hs_eq]
    exact ro
  · rcases (show c = 0 ∨ c = 1 ∨ c = 2 ∨ c = 3 by omega) with rfl | rfl | rfl | rfl <;> simp (disch := omega) only [hs_ne, hs_eq] <;> first | exact r0 | exact r1 | exact r2 | exact r3
  · show _ = _
    simp (disch := omega) only [hs_ne]
end THW
def RD (P0 P : Nat → Nat) (m k t : Nat) : Prop :=
  (∀ j, j < 512 → eT j ≤ P j ∧ P j ≤ P0 j) ∧ m ≤ 1 ∧ (∀ j u, j < 512 → u < 4 → (j < k ∨ (j = k ∧ u < t)) → P j ≤ P0 (tr j u) + 1) ∧
  (m = 0 → ∀ j, j < 512 → P j = P0 j) ∧ ((∀ j, j < 512 → P0 j = eT j) → m = 0)
section LPA
theorem l_lp55 {P0 : Nat → Nat} (h99 : ∀ j, j < 512 → P0 j ≤ 99) {k : Nat} (hk : k < 512) : ∀ (c t f m : Nat) (P : Nat → Nat) (h : MH), t + c = 4 → c < f → RD P0 P m k t → Rw 76 P h →
    ∃ h' P' m', L_M_layPath_55 (I k) f (I m) (I t) h = some (I ((m' : Nat) : Int), h') ∧ RD P0 P' m' (k + 1) 0 ∧ Rw 76 P' h' ∧ FrP 76 h h' := by
  intro c
  induction c with
  | zero =>
    intro t f m P h e hf s R
    obtain ⟨f, rfl⟩ := sfuel hf
    refine ⟨h, P, m, ?_, ⟨s.1, s.2.1, fun j u hj hu hp => s.2.2.1 j u hj hu (by omega), s.2.2.2⟩, R, FrP_rfl 76 h⟩
    simp (disch := omega) only [L_M_layPath_55, I_le]
    rw [if_pos (by omega)]
  | succ c ih =>
    intro t f m P h e hf s R
    obtain ⟨f, rfl⟩ := sfuel hf
    have ht : t < 4 := by omega
    obtain ⟨s1, s2, s3, s4, s5⟩ := id s
    obtain ⟨h7, h8, p1, p2, p3, p4⟩ := m_trans (h := h) hk ht
    have tb := tr_lt hk ht
    have R8 : Rw 76 P h8 := Rw_W (by omega) (by omega) p4 R
    have bk := s1 k hk
    have bt := s1 (tr k t) tb
    have b9 := h99 k hk
    have b9' := h99 (tr k t) tb
    have e2 := eT_2 hk ht
    have iv : I ((P (tr k t) : Nat) : Int) + I 1 = I ((P (tr k t) + 1 : Nat) : Int) := I_succ _
    have mI : (I (m : Int) = I 0) = (m = 0) := by
      rw [I_eq (by omega) (by omega) (by omega) (by omega)]
      exact propext ⟨fun q => by omega, fun q => by omega⟩
    by_cases v : P k ≤ P (tr k t) + 1
    · have sn : RD P0 P m k (t + 1) := by
        refine ⟨s1, s2, fun j u hj hu hp => ?_, s4, s5⟩
        rcases hp with x | x
        · exact s3 j u hj hu (Or.inl x)
        · by_cases ut : u = t
          · rw [x.1, ut]
            omega
          · exact s3 j u hj hu (Or.inr ⟨x.1, by omega⟩)
      have self : mm_hset h8.1 76 k (I ((P k : Nat) : Int)) = h8.1 := hs_self (R8 k hk)
      obtain ⟨h', P', m', r1, r2, r3, r4⟩ := ih (t + 1) f m P h8 (by omega) (by omega) sn R8
      refine ⟨h', P', m', ?_, r2, r3, FrP_tr (FrP_W p4) r4⟩
      simp (disch := omega) only [L_M_layPath_55, I_le, if_neg (show ¬ (4 : Int) ≤ (t : Int) by omega), p1, p2, p3, bd_s, ck_in, I_nat, Int.toNat_natCast, R8 (tr k t) tb, iv, iw_s, kw_s, R8 k hk, if_pos (show ((P k : Nat) : Int) ≤ ((P (tr k t) + 1 : Nat) : Int) by omega), zero_I, mI, self, hw_s, I_succ]
      by_cases m0 : m = 0
      · subst m0
        rw [if_neg (show ¬ ¬ _ from fun z => z rfl)]
        exact r1
      · have m1 : m = 1 := by omega
        subst m1
        rw [if_pos m0]
        exact r1
    · have sn : RD P0 (fun j => if j = k then P (tr k t) + 1 else P j) 1 k (t + 1) := by
        refine ⟨fun j hj => ?_, by omega, fun j u hj hu hp => ?_, fun x => by omega, fun q => ?_⟩
        · by_cases jk : j = k
          · simp only [jk, if_true]
            omega
          · simp only [jk, if_false]
            exact s1 j hj
        · by_cases jk : j = k
          · simp only [jk, if_true]
            by_cases ut : u = t
            · rw [ut]
              omega
            · have := s3 k u hk hu (Or.inr ⟨rfl, by omega⟩)
              omega
          · simp only [jk, if_false]
            exact s3 j u hj hu (by omega)
        · have x1 := q k hk
          have x2 := q (tr k t) tb
          omega
      have R9 : Rw 76 (fun j => if j = k then P (tr k t) + 1 else P j) (mm_hset h8.1 76 k (I ((P (tr k t) + 1 : Nat) : Int)), h8.2) := by
        intro j hj
        show mm_hset h8.1 76 k (I ((P (tr k t) + 1 : Nat) : Int)) 76 j = _
        by_cases jk : j = k
        · simp only [jk, hs_eq, if_true]
        · rw [hs_ne (by omega)]
          simp only [jk, if_false]
          exact R8 j hj
      obtain ⟨h', P', m', r1, r2, r3, r4⟩ := ih (t + 1) f 1 _ _ (by omega) (by omega) sn R9
      refine ⟨h', P', m', ?_, r2, r3, FrP_tr (FrP_tr (FrP_W p4) FrP_set) r4⟩
      simp (disch := omega) only [L_M_layPath_55, I_le, if_neg (show ¬ (4 : Int) ≤ (t : Int) by omega), p1, p2, p3, bd_s, ck_in, I_nat, Int.toNat_natCast, R8 (tr k t) tb, iv, iw_s, kw_s, R8 k hk, if_neg (show ¬ ((P k : Nat) : Int) ≤ ((P (tr k t) + 1 : Nat) : Int) by omega), zero_I, mI, hw_s, I_succ]
      by_cases m0 : m = 0
      · rw [if_neg (show ¬ ¬ _ from fun z => z m0)]
        exact r1
      · rw [if_pos m0]
        exact r1
theorem l_lp45 {P0 : Nat → Nat} (h99 : ∀ j, j < 512 → P0 j ≤ 99) : ∀ (d k f m : Nat) (P : Nat → Nat) (h : MH), k + d = 512 → d < f → RD P0 P m k 0 → Rw 76 P h →
    ∃ h' P' m', L_M_layPath_45 f (I m) (I k) h = some (I ((m' : Nat) : Int), h') ∧ RD P0 P' m' 512 0 ∧ Rw 76 P' h' ∧ FrP 76 h h' := by
  intro d
  induction d with
  | zero =>
    intro k f m P h e hf s R
    obtain ⟨f, rfl⟩ := sfuel hf
    obtain rfl : k = 512 := by omega
    refine ⟨h, P, m, ?_, s, R, FrP_rfl 76 h⟩
    simp (disch := omega) only [L_M_layPath_45, I_le]
    rw [if_pos (by omega)]
  | succ d ih =>
    intro k f m P h e hf s R
    obtain ⟨f, rfl⟩ := sfuel hf
    obtain ⟨h1, P1, m1, p1, p2, p3, p4⟩ := l_lp55 h99 (k := k) (by omega) 4 0 5000 m P h (by omega) (by omega) s R
    have p1' : L_M_layPath_55 (I k) 5000 (I m) (I 0) h = some (I ((m1 : Nat) : Int), h1) := p1
    obtain ⟨h', P', m', r1, r2, r3, r4⟩ := ih (k + 1) f m1 P1 h1 (by omega) (by omega) p2 p3
    refine ⟨h', P', m', ?_, r2, r3, FrP_tr p4 r4⟩
    simp (disch := omega) only [L_M_layPath_45, I_le, if_neg (show ¬ (512 : Int) ≤ (k : Int) by omega), p1', bd_s, I_succ]
    exact r1
theorem l_lp37 : ∀ (r lev f : Nat) (P0 : Nat → Nat) (h : MH), lev + r = 10 → r + 1 < f → (∀ j, j < 512 → eT j ≤ P0 j ∧ P0 j ≤ 99) → (∀ j, j < 512 → eT j ≤ lev → P0 j = eT j) → Rw 76 P0 h →
    ∃ h', L_M_layPath_37 f (I 1) h = some h' ∧ Rw 76 eT h' ∧ FrP 76 h h' := by
  intro r
  induction r with
  | zero =>
    intro lev f P0 h e hf hb hl R
    obtain ⟨f, rfl⟩ := sfuel (show 0 + 1 < f from hf)
    obtain ⟨h1, P1, m1, p1, s, R1, fr1⟩ := l_lp45 (fun j hj => (hb j hj).2) 512 0 5000 0 P0 h (by omega) (by omega) ⟨fun j hj => ⟨(hb j hj).1, Nat.le_refl _⟩, by omega, fun j u hj hu hp => by omega, fun _ j hj => rfl, fun _ => rfl⟩ R
    have p1' : L_M_layPath_45 5000 (I 0) (I 0) h = some (I ((m1 : Nat) : Int), h1) := p1
    obtain ⟨s1, s2, s3, s4, s5⟩ := s
    have all : ∀ j, j < 512 → P0 j = eT j := by
      intro j hj
      have b := hb j hj
      rcases eT_3 hj with q | q | q
      · omega
      · exact hl j hj (by omega)
      · exact hl j hj (by omega)
    have m0 := s5 all
    subst m0
    refine ⟨h1, ?_, fun j hj => by rw [R1 j hj, s4 rfl j hj, all j hj], fr1⟩
    obtain ⟨f', rfl⟩ : ∃ f', f = f' + 1 := sfuel (d := 0) (by omega)
    simp only [L_M_layPath_37, zero_I, show (I 1 = I 0) = False from one_ne, if_false, p1', bd_s]
    exact if_pos rfl
  | succ r ih =>
    intro lev f P0 h e hf hb hl R
    obtain ⟨f, rfl⟩ := sfuel (show r + 1 + 1 < f from hf)
    obtain ⟨h1, P1, m1, p1, s, R1, fr1⟩ := l_lp45 (fun j hj => (hb j hj).2) 512 0 5000 0 P0 h (by omega) (by omega) ⟨fun j hj => ⟨(hb j hj).1, Nat.le_refl _⟩, by omega, fun j u hj hu hp => by omega, fun _ j hj => rfl, fun _ => rfl⟩ R
    have p1' : L_M_layPath_45 5000 (I 0) (I 0) h = some (I ((m1 : Nat) : Int), h1) := p1
    obtain ⟨s1, s2, s3, s4, s5⟩ := s
    rcases (show m1 = 0 ∨ m1 = 1 by omega) with q | q
    · subst q
      have up : ∀ x j, j < 512 → eT j = x → x < 99 → P0 j ≤ x := by
        intro x
        induction x with
        | zero =>
          intro j hj ej _
          have := hl j hj (by omega)
          omega
        | succ x ihx =>
          intro j hj ej hx
          rcases eT_3 hj with y | y | y
          · omega
          · omega
          · obtain ⟨-, -, t, ht, et⟩ := y
            have a := ihx (tr j t) (tr_lt hj ht) (by omega) (by omega)
            have b := s3 j t hj ht (Or.inl hj)
            have c := s4 rfl j hj
            omega
      have all : ∀ j, j < 512 → P0 j = eT j := by
        intro j hj
        have b := hb j hj
        by_cases y : eT j < 99
        · have := up (eT j) j hj rfl y
          omega
        · have := eT_le hj
          omega
      refine ⟨h1, ?_, fun j hj => by rw [R1 j hj, s4 rfl j hj, all j hj], fr1⟩
      obtain ⟨f', rfl⟩ : ∃ f', f = f' + 1 := sfuel (d := r + 1) (by omega)
      simp only [L_M_layPath_37, zero_I, show (I 1 = I 0) = False from one_ne, if_false, p1', bd_s]
      exact if_pos rfl
    · subst q
      obtain ⟨h', r1, r2, r3⟩ := ih (lev + 1) f P1 h1 (by omega) (by omega) (fun j hj => ⟨(s1 j hj).1, Nat.le_trans (s1 j hj).2 (hb j hj).2⟩) (fun j hj hle => by
        have a := s1 j hj
        by_cases y : eT j ≤ lev
        · have := hl j hj y
          omega
        · rcases eT_3 hj with z | z | z
          · omega
          · omega
          · obtain ⟨-, -, t, ht, et⟩ := z
            have b := s3 j t hj ht (Or.inl hj)
            have c := hl (tr j t) (tr_lt hj ht) (by omega)
            omega) R1
      refine ⟨h', ?_, r2, FrP_tr fr1 r3⟩
      simp only [L_M_layPath_37, zero_I, show (I 1 = I 0) = False from one_ne, if_false, p1', bd_s]
      exact r1
theorem l_lp5 : ∀ (d i f : Nat) (h : MH), i + d = 512 → d < f → ∃ h', L_M_layPath_5 (I 27) f (I i) h = some h' ∧ (∀ j, i ≤ j → j < 512 → h'.1 76 j = I ((if j = 27 then 0 else 99 : Nat) : Int)) ∧ (∀ j, j < i → h'.1 76 j = h.1 76 j) ∧ FrP 76 h h' := by
  intro d
  induction d with
  | zero =>
    intro i f h e hf
    obtain ⟨f, rfl⟩ := sfuel hf
    refine ⟨h, ?_, fun j a b => by omega, fun j a => rfl, FrP_rfl 76 h⟩
    simp (disch := omega) only [L_M_layPath_5, I_le]
    rw [if_pos (by omega)]
  | succ d ih =>
    intro i f h e hf
    obtain ⟨f, rfl⟩ := sfuel hf
    have ev : (if ¬ I (i : Int) = I 27 then I 99 else I 0) = I ((if i = 27 then 0 else 99 : Nat) : Int) := by
      have ec : (I (i : Int) = I 27) = (i = 27) := by
        rw [I_eq (by omega) (by omega) (by omega) (by omega)]
        exact propext ⟨fun q => by omega, fun q => by omega⟩
      by_cases q : i = 27
      · rw [if_neg (show ¬ ¬ _ from fun z => z (by rw [q]; rfl)), if_pos q]
        rfl
      · rw [if_pos (by rw [ec]; exact q), if_neg q]
        rfl
    obtain ⟨h', p1, p2, p3, p4⟩ := ih (i + 1) f (mm_hset h.1 76 i (I ((if i = 27 then 0 else 99 : Nat) : Int)), h.2) (by omega) (by omega)
    refine ⟨h', ?_, fun j a b => ?_, fun j a => (p3 j (by omega)).trans (hs_ne (by omega)), FrP_tr FrP_set p4⟩
    · simp (disch := omega) only [L_M_layPath_5, I_le, if_neg (show ¬ (512 : Int) ≤ (i : Int) by omega), ev, iw_s, ck_in, I_nat, Int.toNat_natCast, hw_s, I_succ]
      exact p1
    · by_cases q : j = i
      · subst q
        exact (p3 j (by omega)).trans hs_eq
      · exact p2 j (by omega) b
theorem m_layPath (h : MH) : ∃ h', F_M_layPath h = some h' ∧ Rw 76 eT h' ∧ FrP 76 h h' := by
  obtain ⟨h1, p1, p2, p3, p4⟩ := l_lp5 512 0 5000 h (by omega) (by omega)
  have p1' : L_M_layPath_5 (I 27) 5000 (I 0) h = some h1 := p1
  obtain ⟨h', q1, q2, q3⟩ := l_lp37 10 0 5000 (fun j => if j = 27 then 0 else 99) h1 (by omega) (by omega) (fun j hj => by
    by_cases q : j = 27
    · simp only [q, if_true]
      have := eT_0
      omega
    · simp only [q, if_false]
      have := eT_le hj
      omega) (fun j hj hle => by
    rcases eT_3 hj with z | z | z
    · omega
    · simp only [z.2, if_true]
      exact eT_0.symm
    · omega) (fun j hj => p2 j (by omega) hj)
  refine ⟨h', ?_, q2, FrP_tr p4 q3⟩
  simp only [F_M_layPath, p1', bd_s, q1]
end LPA
/-- the first turn towards all right -/
def gt (k : Nat) : Nat := match fFi (fun t => eT (tr k t) + 1 == eT k) 4 0 with
  | some t => t
  | none => 9
def mrt : Nat → Nat → Nat
  | k, 0 => gt k
  | k, i + 1 => mrt (tr k (gt k)) i
theorem rt_dec : oks.all (fun l => match ixl (sprd l) 228 0 with
    | some j => (turQ (sprd l) j == eT (cod l)) && (List.range (turQ (sprd l) j)).all (fun i => match wkO (sprd l) (turQ (sprd l) j - (i + 1)) j with
      | some e => byQ (sprd l) e == mrt (cod l) i
      | none => false)
    | none => false) = true := by decide +kernel
theorem rt_p {l : Nat} (ok : okLie l = true) : ∃ j, ixl (sprd l) 228 0 = some j ∧ turQ (sprd l) j = eT (cod l) ∧ ∀ i, i < eT (cod l) → ∃ e, wkO (sprd l) (turQ (sprd l) j - (i + 1)) j = some e ∧ byQ (sprd l) e = mrt (cod l) i := by
  have h := List.all_eq_true.mp rt_dec l (mem_oks ok)
  rcases hx : ixl (sprd l) 228 0 with _ | j
  · rw [hx] at h
    exact absurd h (by simp)
  · rw [hx] at h
    simp only [Bool.and_eq_true, beq_iff_eq, List.all_eq_true, List.mem_range] at h
    refine ⟨j, rfl, h.1, fun i hi => ?_⟩
    have g := h.2 i (by omega)
    rcases hw : wkO (sprd l) (turQ (sprd l) j - (i + 1)) j with _ | e
    · rw [hw] at g
      exact absurd g (by simp)
    · rw [hw] at g
      exact ⟨e, rfl, eq_of_beq g⟩
def gI (k : Nat) : Nat → Int32 × Int32 → Int32 × Int32
  | 0, s => s
  | c + 1, s => gI k c (if eT (tr k c) + 1 = eT k then (I c, I ((tr k c : Nat) : Int)) else s)
theorem gI_eq {k : Nat} (hk : k < 512) (h0 : 0 < eT k) (h9 : eT k < 99) (s : Int32 × Int32) : gt k < 4 ∧ eT (tr k (gt k)) + 1 = eT k ∧ gI k 4 s = (I (gt k), I ((tr k (gt k) : Nat) : Int)) := by
  have ex : ∃ t, t < 4 ∧ eT (tr k t) + 1 = eT k := by
    rcases eT_3 hk with q | q | q
    · omega
    · omega
    · exact q.2.2
  have u : ∀ b : Nat → Prop, True := fun _ => trivial
  have g4 : gI k 4 s = if eT (tr k 0) + 1 = eT k then (I ((0 : Nat) : Int), I ((tr k 0 : Nat) : Int)) else if eT (tr k 1) + 1 = eT k then (I ((1 : Nat) : Int), I ((tr k 1 : Nat) : Int)) else if eT (tr k 2) + 1 = eT k then (I ((2 : Nat) : Int), I ((tr k 2 : Nat) : Int)) else if eT (tr k 3) + 1 = eT k then (I ((3 : Nat) : Int), I ((tr k 3 : Nat) : Int)) else s := rfl
  have gg : gt k = if eT (tr k 0) + 1 = eT k then 0 else if eT (tr k 1) + 1 = eT k then 1 else if eT (tr k 2) + 1 = eT k then 2 else if eT (tr k 3) + 1 = eT k then 3 else 9 := by
    unfold gt
    simp only [fFi, beq_iff_eq]
    by_cases c0 : eT (tr k 0) + 1 = eT k
    · simp only [c0, if_true]
    · simp only [c0, if_false]
      by_cases c1 : eT (tr k (0 + 1)) + 1 = eT k
      · simp only [c1, if_true]
      · simp only [c1, if_false]
        by_cases c2 : eT (tr k (0 + 1 + 1)) + 1 = eT k
        · simp only [c2, if_true]
        · simp only [c2, if_false]
          by_cases c3 : eT (tr k (0 + 1 + 1 + 1)) + 1 = eT k
          · simp only [c3, if_true]
          · simp only [c3, if_false]
  rw [g4, gg]
  by_cases c0 : eT (tr k 0) + 1 = eT k
  · simp only [c0, if_true]
    exact ⟨by omega, trivial, trivial⟩
  · simp only [c0, if_false]
    by_cases c1 : eT (tr k 1) + 1 = eT k
    · simp only [c1, if_true]
      exact ⟨by omega, trivial, trivial⟩
    · simp only [c1, if_false]
      by_cases c2 : eT (tr k 2) + 1 = eT k
      · simp only [c2, if_true]
        exact ⟨by omega, trivial, trivial⟩
      · simp only [c2, if_false]
        have c3 : eT (tr k 3) + 1 = eT k := by
          obtain ⟨t, ht, et⟩ := ex
          rcases (show t = 0 ∨ t = 1 ∨ t = 2 ∨ t = 3 by omega) with rfl | rfl | rfl | rfl
          · exact absurd et c0
          · exact absurd et c1
          · exact absurd et c2
          · exact et
        simp only [c3, if_true]
        exact ⟨by omega, trivial, trivial⟩
section RGT
theorem l_r68 {x1 x3 x5 : Int32} {k : Nat} (hk : k < 512) : ∀ (c f : Nat) (s : Int32 × Int32) (h : MH), c ≤ 4 → c < f → Rw 76 eT h →
    ∃ h', L_M_right_68 x1 (I k) x3 x5 f s.1 s.2 (I ((c : Int) - 1)) h = some ((gI k c s).1, (gI k c s).2, h') ∧ FrW h h' := by
  intro c
  induction c with
  | zero =>
    intro f s h hc hf R
    obtain ⟨f, rfl⟩ := sfuel hf
    refine ⟨h, ?_, FrW_rfl h⟩
    simp (disch := omega) only [L_M_right_68, zero_I, I_lt]
    rw [if_pos (by omega)]
    rfl
  | succ c ih =>
    intro f s h hc hf R
    obtain ⟨f, rfl⟩ := sfuel hf
    obtain ⟨h7, h8, p1, p2, p3, p4⟩ := m_trans (h := h) (t := c) hk (by omega)
    have tb := tr_lt (t := c) hk (by omega)
    have R8 : Rw 76 eT h8 := Rw_W (by omega) (by omega) p4 R
    have b1 := eT_le hk
    have b2 := eT_le tb
    obtain ⟨h', r1, r2⟩ := ih f (if eT (tr k c) + 1 = eT k then (I c, I ((tr k c : Nat) : Int)) else s) h8 (by omega) (by omega) R8
    refine ⟨h', ?_, FrW_tr p4 r2⟩
    have eb : (((c + 1 : Nat) : Int) - 1) = (c : Int) := by omega
    have eb2 : I (c : Int) + I (-1) = I ((c : Int) - 1) := by
      rw [I_add]
      congr 1
    have ep : I ((eT k : Nat) : Int) - I 1 = I (((eT k : Nat) : Int) - 1) := I_sub _ _
    have ee : (I ((eT (tr k c) : Nat) : Int) = I (((eT k : Nat) : Int) - 1)) = (eT (tr k c) + 1 = eT k) := by
      rw [I_eq (by omega) (by omega) (by omega) (by omega)]
      exact propext ⟨fun q => by omega, fun q => by omega⟩
    show _ = some ((gI k c (if eT (tr k c) + 1 = eT k then (I c, I ((tr k c : Nat) : Int)) else s)).1, (gI k c (if eT (tr k c) + 1 = eT k then (I c, I ((tr k c : Nat) : Int)) else s)).2, h')
    rw [eb, ← r1]
    simp (disch := omega) only [L_M_right_68, zero_I, I_lt, if_neg (show ¬ (c : Int) < 0 by omega), p1, p2, p3, bd_s, ck_in, I_nat, Int.toNat_natCast, R8 (tr k c) tb, R8 k hk, ep, ee, iw_s, eb2]
    by_cases q : eT (tr k c) + 1 = eT k
    · rw [if_neg (show ¬ ¬ _ from fun z => z q), if_neg (show ¬ (I 1 = I 0) by decide), if_neg (show ¬ (I 1 = I 0) by decide), if_pos q]
    · rw [if_pos q, if_pos rfl, if_pos rfl, if_neg q]
theorem l_r50 {x : Int} (e1 : i32 x) (h0 : 0 ≤ x) {all : Nat} (ha : all ≤ 8) : ∀ (d k f code : Nat) (v : Int32) (h : MH), k + d = all → code < 512 → eT code = d → d < f → Rw 76 eT h →
    ∃ h' y, L_M_right_50 (I x) (I all) f (I code) v (I k) h = some (y, h') ∧ FrW h h' ∧ (x < k → y = v) ∧ (x < all → (k : Int) ≤ x → y = I ((mrt code (x.toNat - k) : Nat) : Int)) := by
  obtain ⟨l1, g1⟩ := e1
  intro d
  induction d with
  | zero =>
    intro k f code v h e hc ec hf R
    obtain ⟨f, rfl⟩ := sfuel hf
    refine ⟨h, v, ?_, FrW_rfl h, fun _ => rfl, fun a b => by omega⟩
    simp (disch := omega) only [L_M_right_50, I_lt, I_le, if_pos (show (all : Int) ≤ (k : Int) by omega), ite_self]
  | succ d ih =>
    intro k f code v h e hc ec hf R
    obtain ⟨f, rfl⟩ := sfuel hf
    by_cases q : x < k
    · refine ⟨h, v, ?_, FrW_rfl h, fun _ => rfl, fun a b => by omega⟩
      simp (disch := omega) only [L_M_right_50, I_lt, if_pos q]
    · obtain ⟨g1', g2, g3⟩ := gI_eq hc (by omega) (by omega) (v, I (-1))
      obtain ⟨h1, p1, p2⟩ := l_r68 (x1 := I x) (x3 := I all) (x5 := I k) hc 4 5000 (v, I (-1)) h (by omega) (by omega) R
      rw [g3] at p1
      have p1' : L_M_right_68 (I x) (I code) (I all) (I k) 5000 v (I (-1)) (I 3) h = some (I (gt code), I ((tr code (gt code) : Nat) : Int), h1) := p1
      obtain ⟨h', y, r1, r2, r3, r4⟩ := ih (k + 1) f (tr code (gt code)) (I (gt code)) h1 (by omega) (tr_lt hc g1') (by omega) (by omega) (Rw_W (by omega) (by omega) p2 R)
      refine ⟨h', y, ?_, FrW_tr p2 r2, fun z => absurd z q, fun a b => ?_⟩
      · simp (disch := omega) only [L_M_right_50, I_lt, I_le, if_neg q, if_neg (show ¬ (all : Int) ≤ (k : Int) by omega), p1', bd_s, I_succ]
        exact r1
      · by_cases c : x = k
        · rw [r3 (by omega), show x.toNat - k = 0 by omega]
          rfl
        · rw [r4 a (by omega), show x.toNat - k = (x.toNat - (k + 1)) + 1 by omega]
          rfl
theorem q_right {S : SS} (J : InvS S) {x : Int} (e1 : i32 x) : Q2 S (F_C_right (I x)) (F_M_right (I x)) := by
  have ok := J.2.2.2.2.2.2.2.2
  have hl := ok_lt ok
  have cl := cod_lt hl
  obtain ⟨l1, g1⟩ := id e1
  obtain ⟨j, ix, tj, wj⟩ := rt_p ok
  have c0 := chk_p (sprd_p ok)
  have jb := ixl_0 ix
  have t8 := (c0.2.2.2 j jb.1).1
  by_cases h0 : -1 ≤ x
  · refine ⟨(if x < 0 then I ((eT (cod (hLie (sN S))) : Nat) : Int) else if x < eT (cod (hLie (sN S))) then I ((mrt (cod (hLie (sN S))) x.toNat : Nat) : Int) else I (-9), 0), by show 0 < 7; omega, fun h R => ?_, fun h R => ?_⟩
    · obtain ⟨h', p1, p2, p3, p4⟩ := c_spread hl h
      refine ⟨h', ?_, p3.1, fun k i s => ?_⟩
      · simp (disch := omega) only [F_C_right, I_le, if_pos h0, rn_l (rc_h R), p1, bd_s, I_eq]
        by_cases c : x < 0
        · have tt := c_turnsTo p4 p2 (show 228 < 512 by omega)
          have tt' : F_L_turnsTo (I 228) h' = some (I ((eT (cod (hLie (sN S))) : Nat) : Int), h') := by
            unfold tuT at tt
            rw [ix] at tt
            rw [← tj]
            exact tt
          rw [if_neg (show ¬ ¬ x = -1 by omega), if_pos c, tt', bd_s]
        · rw [if_pos (show ¬ x = -1 by omega), if_neg c]
          by_cases d : x < eT (cod (hLie (sN S)))
          · obtain ⟨i, rfl⟩ : ∃ i : Nat, x = i := ⟨x.toNat, by omega⟩
            obtain ⟨e, we, be⟩ := wj i (by omega)
            have tt := c_turnTo p4 p2 (show 228 < 512 by omega) ix (i := i) (by omega) we
            have tt' : F_L_turnTo (I 228) (I i) h' = some (I ((byQ (sprd (hLie (sN S))) e : Nat) : Int), h') := tt
            rw [if_pos d, tt', bd_s, be, Int.toNat_natCast]
          · have tt := c_turnTo_n p4 p2 (show 228 < 512 by omega) e1 (by omega) ix (by omega)
            have tt' : F_L_turnTo (I 228) (I x) h' = some (I (-9), h') := tt
            rw [if_neg d, tt', bd_s]
      · rw [p3.2 k (by
          unfold scC at s
          simp at s
          omega)]
        rfl
    · have R0 := RM_Sc R (ScM_setT h)
      obtain ⟨h1, p1, p2, p3⟩ := m_layPath (setT h)
      have R1 := RM_Sc R0 (ScM_P6 p3)
      obtain ⟨h2, q1, q2, q3⟩ := m_thinkW (rm_h R1) hl
      have w2 : Rw 76 eT h2 := Rw_W (by omega) (by omega) q3 p2
      have e8 : eT (cod (hLie (sN S))) ≤ 8 := by omega
      by_cases c : x < 0
      · refine ⟨h2, ?_, ScM_tr (ScM_P6 p3) (ScM_W q3)⟩
        simp (disch := omega) only [F_M_right, setT_d, hw_s, I_le, if_pos h0, p1, bd_s, q1, m_code hl q2, ck_in, I_nat, Int.toNat_natCast, w2 (cod (hLie (sN S))) cl, zero_I, if_neg (show ¬ 0 ≤ x by omega), if_pos c]
      · obtain ⟨h3, y, r1, r2, r3, r4⟩ := l_r50 e1 (show 0 ≤ x by omega) e8 (eT (cod (hLie (sN S)))) 0 5000 (cod (hLie (sN S))) (I (-9)) h2 (by omega) cl rfl (by omega) w2
        have r1' : L_M_right_50 (I x) (I ((eT (cod (hLie (sN S))) : Nat) : Int)) 5000 (I ((cod (hLie (sN S)) : Nat) : Int)) (I (-9)) (I 0) h2 = some (y, h3) := r1
        refine ⟨h3, ?_, ScM_tr (ScM_tr (ScM_P6 p3) (ScM_W q3)) (ScM_W r2)⟩
        simp (disch := omega) only [F_M_right, setT_d, hw_s, I_le, if_pos h0, p1, bd_s, q1, m_code hl q2, ck_in, I_nat, Int.toNat_natCast, w2 (cod (hLie (sN S))) cl, zero_I, if_pos (show 0 ≤ x by omega), r1', iw_s, if_neg c]
        by_cases d : x < eT (cod (hLie (sN S)))
        · rw [if_pos d, if_neg (by omega), r4 d (by omega)]
          rfl
        · rw [if_neg d, if_pos (by omega)]
  · refine q_pl (I (-4)) 4 (by omega) (fun h R => ?_) (fun h R => ?_)
    · simp (disch := omega) only [F_C_right, I_le, if_neg h0, c_ref4, bd_s]
    · simp (disch := omega) only [F_M_right, setT_d, hw_s, I_le, if_neg h0, m_ref4, bd_s]
end RGT
