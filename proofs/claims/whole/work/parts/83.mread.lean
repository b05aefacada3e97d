-- 3 house: a statement is read, all statements are read
def FrK (k : Nat) (h h' : MH) : Prop := h'.2 = h.2 ∧ ∀ a i, ¬ (a = 55 ∧ 16 ≤ i ∧ i ≤ 18) → ¬ (65 ≤ a ∧ a ≤ 66 ∧ k ≤ i) → ¬ (a = 67 ∧ 10 * k ≤ i) → h'.1 a i = h.1 a i
theorem FrK_rfl (k : Nat) (h : MH) : FrK k h h := ⟨rfl, fun _ _ _ _ _ => rfl⟩
theorem FrK_tr {k : Nat} {a b c : MH} (p : FrK k a b) (q : FrK k b c) : FrK k a c := ⟨q.1.trans p.1, fun a i x y z => (q.2 a i x y z).trans (p.2 a i x y z)⟩
theorem FrK_N {k : Nat} {a b : MH} (p : FrN k a b) : FrK k a b := ⟨p.1, fun a i x _ z => p.2 a i (by omega) z⟩
theorem FrK_s {k : Nat} {a b : MH} (p : FrK (k + 1) a b) : FrK k a b := ⟨p.1, fun a i x y z => p.2 a i x (by omega) (by omega)⟩
theorem LM_K {l : List Int} {k : Nat} {h h' : MH} (T : LM l h) (q : FrK k h h') : LM l h' := ⟨(q.2 55 15 (by omega) (by omega) (by omega)).trans T.1, fun i hi => (q.2 64 i (by omega) (by omega) (by omega)).trans (T.2 i hi)⟩
def tdS (s : Stm) (k : Nat) (f : Nat → Nat → Int32) : Prop := f 65 k = I (s.1 : Int) ∧ f 66 k = I s.2.1 ∧ tdN s.2.1 s.2.2 k f
theorem tdS_K {s : Stm} {k : Nat} {h h' : MH} (T : tdS s k h.1) (hl : s.2.2.length ≤ 9) (q : FrK (k + 1) h h') : tdS s k h'.1 := by
  have e7 : ∀ i, i < 10 → h'.1 67 (10 * k + i) = h.1 67 (10 * k + i) := fun i hi => q.2 67 _ (by omega) (by omega) (by omega)
  have e70 : h'.1 67 (10 * k) = h.1 67 (10 * k) := q.2 67 _ (by omega) (by omega) (by omega)
  have e71 : h'.1 67 (10 * k + 1) = h.1 67 (10 * k + 1) := q.2 67 _ (by omega) (by omega) (by omega)
  obtain ⟨a, b, t1, t2, t3, t4⟩ := T
  refine ⟨(q.2 65 k (by omega) (by omega) (by omega)).trans a, (q.2 66 k (by omega) (by omega) (by omega)).trans b, fun c i hi => (e7 i (by omega)).trans (t1 c i hi), fun c => ⟨e70.trans (t2 c).1, e71.trans (t2 c).2⟩, fun c => ⟨e70.trans (t3 c).1, e71.trans (t3 c).2⟩, fun c => ⟨e70.trans (t4 c).1, fun j hj => ?_⟩⟩
  rw [q.2 67 (10 * k + 1 + j) (by omega) (by omega) (by omega)]
  exact (t4 c).2 j hj
theorem rs_let {c : Int} (h0 : -1 ≤ c) (h1 : c ≤ 255) : (if I c = I 98 then I 0 else (if I c = I 112 then I 0 else (if I c = I 119 then I 0 else (if I c = I 116 then I 0 else I 1)))) = I ((if mostL c = 0 then 1 else 0 : Nat) : Int) := by
  simp (disch := omega) only [I_eq]
  unfold mostL
  by_cases c1 : c = 98
  · rw [if_pos c1, if_pos c1]; rfl
  · rw [if_neg c1, if_neg c1]
    by_cases c2 : c = 112
    · rw [if_pos c2, if_pos c2]; rfl
    · rw [if_neg c2, if_neg c2]
      by_cases c4 : c = 119
      · rw [if_pos c4, if_neg (show ¬ c = 116 by omega), if_pos c4]; rfl
      · rw [if_neg c4]
        by_cases c3 : c = 116
        · rw [if_pos c3, if_pos c3]; rfl
        · rw [if_neg c3, if_neg c3, if_neg c4]; rfl
/-- the end of a statement -/
def rsE (b : Nat) (p k : Nat) (g : MH) : MH := (mm_hset (mm_hset (mm_hset g.1 55 17 (I (b : Int))) 55 16 (I (p : Int))) 55 18 (I ((k + 1 : Nat) : Int)), g.2)
theorem rsE_p (b p k : Nat) (g : MH) : GS p b (rsE b p k g) ∧ (rsE b p k g).1 55 18 = I ((k + 1 : Nat) : Int) ∧ FrK k g (rsE b p k g) ∧ ∀ a i, ¬ a = 55 → (rsE b p k g).1 a i = g.1 a i := by
  refine ⟨⟨?_, ?_⟩, ?_, ⟨rfl, fun a i x y z => ?_⟩, fun a i x => ?_⟩ <;> unfold rsE <;> simp (disch := omega) only [hs_ne, hs_eq]
theorem tdN_cg {c : Int} {ds : List Int} {k : Nat} {f g : Nat → Nat → Int32} (T : tdN c ds k f) (e : ∀ i, g 67 i = f 67 i) : tdN c ds k g :=
  ⟨fun q i hi => (e _).trans (T.1 q i hi), fun q => ⟨(e _).trans (T.2.1 q).1, (e _).trans (T.2.1 q).2⟩, fun q => ⟨(e _).trans (T.2.2.1 q).1, (e _).trans (T.2.2.1 q).2⟩, fun q => ⟨(e _).trans (T.2.2.2 q).1, fun j hj => (e _).trans ((T.2.2.2 q).2 j hj)⟩⟩
section RDS
variable {l : List Int} {k : Nat}
/-- the state behind a statement's letter -/
def rsG (b p k : Nat) (c : Int) (h : MH) : MH := (mm_hset (mm_hset (mm_hset (mm_hset h.1 65 k (h.1 55 16)) 66 k (I c)) 55 17 (I (b : Int))) 55 16 (I (p : Int)), h.2)
theorem rsG_p {b p k : Nat} {c : Int} {h : MH} (G : ∃ p0 : Nat, h.1 55 16 = I (p0 : Int)) : GS p b (rsG b p k c h) ∧ FrK k h (rsG b p k c h) ∧ (rsG b p k c h).1 55 18 = h.1 55 18 ∧ (rsG b p k c h).1 65 k = h.1 55 16 ∧ (rsG b p k c h).1 66 k = I c := by
  refine ⟨⟨?_, ?_⟩, ⟨rfl, fun a i x y z => ?_⟩, ?_, ?_, ?_⟩ <;> unfold rsG <;> simp (disch := omega) only [hs_ne, hs_eq]
def rsT (z13 : Int32) (h14 : MH) : Option MH := cd (z13 &&& 1 = z13) (hw (mm_hset h14.1 55 17 z13, h14.2) (fun h16 => iw (if (h16.1 55 17) = 0 then I 1 else I 0) (fun v17 => hw (mm_hset h16.1 55 16 ((h16.1 55 16) + v17), h16.2) (fun h19 => hw (mm_hset h19.1 55 18 ((h19.1 55 18) + (I 1)), h19.2) (fun h20 => some h20)))))
def rsK (h11 : MH) : Option MH := kw (fun (z13 : Int32) (h14 : MH) => rsT z13 h14) (fun k15 => if ¬ (h11.1 55 17) = 0 then k15 (I 1) h11 else bd (F_M_here h11) (fun (r24, h23) => if r24 = (I 59) then k15 (I 0) h23 else k15 (I 1) h23))
def rsM (c s : Int32) (h10 : MH) : Option MH := kw (fun (h11 : MH) => rsK h11) (fun k12 => if ¬ (h10.1 55 17) = 0 then k12 h10 else bd (F_M_readNumbers c ((I 10) * s) h10) (fun h28 => k12 h28))
theorem rs_eq (h : MH) : F_M_readStatement h = bd (F_M_here h) (fun (r2, h1) => ck (mm_in (h.1 55 18) 49) (hw (mm_hset h1.1 65 (Int32.toNatClampNeg (h.1 55 18)) (h1.1 55 16), h1.2) (fun h3 => ck (mm_in (h.1 55 18) 49) (hw (mm_hset h3.1 66 (Int32.toNatClampNeg (h.1 55 18)) r2, h3.2) (fun h4 => iw (if ¬ (h4.1 55 17) = 0 then I 1 else (if r2 = (I 98) then I 0 else (if r2 = (I 112) then I 0 else (if r2 = (I 119) then I 0 else (if r2 = (I 116) then I 0 else I 1))))) (fun v5 => cd (v5 &&& 1 = v5) (hw (mm_hset h4.1 55 17 v5, h4.2) (fun h7 => iw (if (h7.1 55 17) = 0 then I 1 else I 0) (fun v8 => hw (mm_hset h7.1 55 16 ((h7.1 55 16) + v8), h7.2) (fun h10 => rsM r2 (h.1 55 18) h10)))))))))) := rfl
theorem bad_I {b : Nat} {x : Int32} (e : x = I (b : Int)) (hb : b = 0 ∨ b = 1) : (x = 0) = (b = 0) := by
  subst e
  rcases hb with q | q <;> subst q <;> decide
theorem bt_b {b : Nat} (hb : b = 0 ∨ b = 1) : (I (b : Int) &&& 1) = I (b : Int) := by
  rcases hb with q | q <;> subst q <;> decide
theorem I_addb {b : Nat} (hb : b = 0 ∨ b = 1) (p : Nat) : I (p : Int) + (if b = 0 then I 1 else I 0) = I ((p + (1 - b) : Nat) : Int) := by
  rcases hb with q | q <;> subst q
  · rw [if_pos rfl, I_add]; rfl
  · rw [if_neg (by omega), I_add, Int.add_zero]; rfl
theorem rsT_e {b p : Nat} {h : MH} (hb : b = 0 ∨ b = 1) (S : h.1 55 18 = I (k : Int)) (P : h.1 55 16 = I (p : Int)) : rsT (I (b : Int)) h = some (rsE b (p + (1 - b)) k h) := by
  have e1 : mm_hset h.1 55 17 (I (b : Int)) 55 17 = I (b : Int) := by rw [hs_eq]
  have e2 : mm_hset h.1 55 17 (I (b : Int)) 55 16 = I (p : Int) := by rw [hs_ne (by omega), P]
  have e3 : mm_hset (mm_hset h.1 55 17 (I (b : Int))) 55 16 (I ((p + (1 - b) : Nat) : Int)) 55 18 = I (k : Int) := by
    rw [← S]
    rw [hs_ne (by omega), hs_ne (by omega)]
  unfold rsT
  rw [cd_t (bt_b hb), hw_s]
  simp only [bad_I e1 hb]
  rw [iw_s, e2, I_addb hb, hw_s, hw_s]
  show some (mm_hset (mm_hset (mm_hset h.1 55 17 (I (b : Int))) 55 16 (I ((p + (1 - b) : Nat) : Int))) 55 18 (mm_hset (mm_hset h.1 55 17 (I (b : Int))) 55 16 (I ((p + (1 - b) : Nat) : Int)) 55 18 + I 1), h.2) = _
  rw [e3, I_succ]
  rfl
theorem rs_p {c : Int} (c0 : -1 ≤ c) (c1 : c ≤ 255) (hk : k ≤ 48) {h : MH} {p : Nat} (he : F_M_here h = some (I c, h)) (S : h.1 55 18 = I (k : Int)) (G : GS p 0 h) : F_M_readStatement h = rsM (I c) (I (k : Int)) (rsG (if mostL c = 0 then 1 else 0) (p + (1 - (if mostL c = 0 then 1 else 0))) k c h) := by
  have hl := rs_let c0 c1
  have hb : (if mostL c = 0 then 1 else 0 : Nat) = 0 ∨ (if mostL c = 0 then 1 else 0 : Nat) = 1 := by
    by_cases q : mostL c = 0
    · rw [if_pos q]; exact Or.inr rfl
    · rw [if_neg q]; exact Or.inl rfl
  have z17 : mm_hset (mm_hset h.1 65 k (h.1 55 16)) 66 k (I c) 55 17 = I ((0 : Nat) : Int) := by
    rw [← G.2]
    rw [hs_ne (by omega), hs_ne (by omega)]
  generalize (if mostL c = 0 then 1 else 0 : Nat) = b at *
  have e1 : mm_hset (mm_hset (mm_hset h.1 65 k (h.1 55 16)) 66 k (I c)) 55 17 (I (b : Int)) 55 17 = I (b : Int) := by rw [hs_eq]
  have e2 : mm_hset (mm_hset (mm_hset h.1 65 k (h.1 55 16)) 66 k (I c)) 55 17 (I (b : Int)) 55 16 = I (p : Int) := by
    rw [← G.1]
    rw [hs_ne (by omega), hs_ne (by omega), hs_ne (by omega)]
  rw [rs_eq, he, bd_s]
  show ck (mm_in (h.1 55 18) 49) _ = _
  rw [S, I_nat (by omega) (by omega), Int.toNat_natCast, ck_in (by omega) (by omega) (by omega), hw_s, ck_in (by omega) (by omega) (by omega), hw_s]
  simp only [bad_I z17 (Or.inl rfl)]
  rw [if_neg (fun q => q trivial), hl, iw_s, cd_t (bt_b hb), hw_s]
  simp only [bad_I e1 hb]
  rw [iw_s, e2, I_addb hb, hw_s]
  rfl
theorem m_rs (K : Lok l) (hk : k ≤ 48) {r pre : List Int} {h : MH} (el : l = pre ++ r) (T : LM l h) (G : GS pre.length 0 h) (S : h.1 55 18 = I (k : Int)) :
    ∃ h', F_M_readStatement h = some h' ∧ FrK k h h' ∧ h'.1 55 18 = I ((k + 1 : Nat) : Int) ∧ (∀ q, pS r pre.length = .inl q → GS q 1 h') ∧ (∀ s r3 q, pS r pre.length = .inr (s, r3, q) → GS q 0 h' ∧ tdS s k h'.1) := by
  have k96 := K.1
  have ll : l.length = pre.length + r.length := by rw [el]; simp
  have z17 : h.1 55 17 = I ((0 : Nat) : Int) := G.2
  have z16 : h.1 55 16 = I (pre.length : Int) := G.1
  -- a bad letter
  have badL : ∀ c : Int, -1 ≤ c → c ≤ 255 → mostL c = 0 → F_M_here h = some (I c, h) → pS r pre.length = .inl pre.length → ∃ h', F_M_readStatement h = some h' ∧ FrK k h h' ∧ h'.1 55 18 = I ((k + 1 : Nat) : Int) ∧ (∀ q, pS r pre.length = .inl q → GS q 1 h') ∧ (∀ s r3 q, pS r pre.length = .inr (s, r3, q) → GS q 0 h' ∧ tdS s k h'.1) := by
    intro c c0 c1 mz he ep
    have hp := rs_p c0 c1 hk he S G
    rw [if_pos mz] at hp
    obtain ⟨g1, g2, g3, -, -⟩ := rsG_p (b := 1) (p := pre.length + (1 - 1)) (k := k) (c := c) ⟨_, z16⟩
    generalize rsG 1 (pre.length + (1 - 1)) k c h = g at *
    obtain ⟨f1, f2, f3, -⟩ := rsE_p 1 (pre.length + (1 - 1) + (1 - 1)) k g
    refine ⟨rsE 1 (pre.length + (1 - 1) + (1 - 1)) k g, hp.trans ?_, FrK_tr g2 f3, f2, fun q e => ?_, fun s r3 q e => ?_⟩
    · have nb : ¬ (g.1 55 17 = 0) := by
        rw [bad_I g1.2 (Or.inr rfl)]
        omega
      unfold rsM
      rw [kw_s, if_pos nb]
      show rsK g = _
      unfold rsK
      rw [kw_s, if_pos nb]
      exact rsT_e (Or.inr rfl) (g3.trans S) g1.1
    · rw [ep] at e
      rw [← Sum.inl.inj e]
      exact f1
    · rw [ep] at e
      exact absurd e (by simp)
  cases r with
  | nil =>
    rw [List.length_nil] at ll
    exact badL (-1) (by omega) (by omega) (by decide) (m_here_n K T (by rw [ll]; exact G)) rfl
  | cons c r1 =>
    obtain ⟨c0, c1, pl, -⟩ := Lok_at K el
    have he := m_here_x K T G el
    by_cases mz : mostL c = 0
    · exact badL c (by omega) c1 mz he (by rw [pS_c, if_pos mz])
    · have hp := rs_p (by omega) c1 hk he S G
      rw [if_neg mz] at hp
      obtain ⟨g1, g2, g3, g4, g5⟩ := rsG_p (b := 0) (p := pre.length + (1 - 0)) (k := k) (c := c) ⟨_, z16⟩
      generalize rsG 0 (pre.length + (1 - 0)) k c h = g at *
      have el1 : l = (pre ++ [c]) ++ r1 := by rw [el]; simp
      have pe : (pre ++ [c]).length = pre.length + 1 := by simp
      obtain ⟨h1, q1, q2, q3, q4⟩ := m_rn (k := k) K hk c0 c1 mz el1 (LM_K T g2) (by rw [pe]; exact g1)
      rw [pe] at q3 q4
      have nb : (g.1 55 17 = 0) := by rw [bad_I g1.2 (Or.inl rfl)]
      have i10 : I 10 * I (k : Int) = I ((10 * k : Nat) : Int) := by rw [I_mul]; congr 1
      have s1 : h1.1 55 18 = I (k : Int) := (q2.2 55 18 (by omega) (by omega)).trans (g3.trans S)
      have hq : F_M_readStatement h = rsK h1 := by
        rw [hp]
        unfold rsM
        rw [kw_s, if_neg (fun q => q nb), i10, q1, bd_s]
      have fr1 : FrK k h h1 := FrK_tr g2 (FrK_N q2)
      have c65 : h1.1 65 k = I (pre.length : Int) := (q2.2 65 k (by omega) (by omega)).trans (g4.trans z16)
      have c66 : h1.1 66 k = I c := (q2.2 66 k (by omega) (by omega)).trans g5
      have T1 : LM l h1 := LM_K T fr1
      obtain ⟨tp1, tp2, tp3, tp4⟩ := tkD_p (mostL c) r1
      rw [pS_c, if_neg mz]
      by_cases lt : (tkD (mostL c) r1).1.length < leastL c
      · rw [if_pos lt]
        have G1 := q4 lt
        obtain ⟨f1, f2, f3, -⟩ := rsE_p 1 (pre.length + 1 + (tkD (mostL c) r1).1.length + (1 - 1)) k h1
        refine ⟨_, hq.trans ?_, FrK_tr fr1 f3, f2, fun q e => ?_, fun s r3 q e => absurd e (by simp)⟩
        · have nb1 : ¬ (h1.1 55 17 = 0) := by
            rw [bad_I G1.2 (Or.inr rfl)]
            omega
          unfold rsK
          rw [kw_s, if_pos nb1]
          exact rsT_e (Or.inr rfl) s1 G1.1
        · rw [← Sum.inl.inj e]
          exact f1
      · rw [if_neg lt]
        obtain ⟨G1, D1⟩ := q3 (by omega)
        have nb1 : (h1.1 55 17 = 0) := by rw [bad_I G1.2 (Or.inl rfl)]
        obtain ⟨s1', s2'⟩ := tk_split el1 (mostL c)
        rw [pe] at s2'
        have hq2 : F_M_readStatement h = bd (F_M_here h1) (fun (r24, h23) => if r24 = (I 59) then rsT (I 0) h23 else rsT (I 1) h23) := by
          rw [hq]
          unfold rsK
          rw [kw_s, if_neg (fun q => q nb1)]
        generalize hd : (tkD (mostL c) r1).1 = ds at *
        rcases hr2 : (tkD (mostL c) r1).2 with _ | ⟨x, r3⟩
        · rw [hr2, List.append_nil] at s1'
          have he1 := m_here_n K T1 (b := 0) (by rw [s1', s2']; exact G1)
          obtain ⟨f1, f2, f3, -⟩ := rsE_p 1 (pre.length + 1 + ds.length + (1 - 1)) k h1
          refine ⟨_, hq2.trans ?_, FrK_tr fr1 f3, f2, fun q e => ?_, fun s r3 q e => absurd e (by simp [pS2])⟩
          · rw [he1, bd_s]
            show (if I (-1) = I 59 then _ else _) = _
            rw [if_neg (by decide)]
            exact rsT_e (b := 1) (Or.inr rfl) s1 G1.1
          · rw [pS2_n] at e
            rw [← Sum.inl.inj e]
            exact f1
        · rw [hr2] at s1'
          have he1 := m_here_x K T1 (b := 0) (by rw [s2']; exact G1) s1'
          obtain ⟨x0, x1, -, -⟩ := Lok_at K s1'
          rw [pS2_c]
          by_cases x59 : x = 59
          · rw [if_pos x59]
            obtain ⟨f1, f2, f3, f4⟩ := rsE_p 0 (pre.length + 1 + ds.length + (1 - 0)) k h1
            refine ⟨_, hq2.trans ?_, FrK_tr fr1 f3, f2, fun q e => absurd e (by simp), fun s r3' q e => ?_⟩
            · rw [he1, bd_s]
              show (if I x = I 59 then _ else _) = _
              rw [if_pos (by rw [x59])]
              exact rsT_e (b := 0) (Or.inl rfl) s1 G1.1
            · have e' := Sum.inr.inj e
              have es : s = (pre.length, c, ds) := (Prod.mk.inj e').1.symm
              have eq : q = pre.length + 1 + ds.length + 1 := (Prod.mk.inj (Prod.mk.inj e').2).2.symm
              rw [es, eq]
              exact ⟨f1, (f4 65 k (by omega)).trans c65, (f4 66 k (by omega)).trans c66, tdN_cg D1 (fun i => f4 67 i (by omega))⟩
          · rw [if_neg x59]
            obtain ⟨f1, f2, f3, -⟩ := rsE_p 1 (pre.length + 1 + ds.length + (1 - 1)) k h1
            refine ⟨_, hq2.trans ?_, FrK_tr fr1 f3, f2, fun q e => ?_, fun s r3 q e => absurd e (by simp)⟩
            · rw [he1, bd_s]
              show (if I x = I 59 then _ else _) = _
              rw [if_neg (by rw [I_eq (by omega) (by omega) (by omega) (by omega)]; exact x59)]
              exact rsT_e (b := 1) (Or.inr rfl) s1 G1.1
            · rw [← Sum.inl.inj e]
              exact f1
end RDS
