-- runs of the mini machine, as steps: Go (from a place in a method), Ex (a whole method)
def I (z : Int) : Int32 := Int32.ofInt z
def Lg (z : Int) : Int64 := Int64.ofInt z
def Go (d mid pc : Nat) (lo : MLo) (st : List MV) (h : MH) (r : MRs) : Prop := ∃ n, mm_ex (mm_run d n) mid n pc lo st h = some r
def Ex (d mid : Nat) (as : List MV) (h : MH) (r : MRs) : Prop := ∃ n, mm_run d n mid as h = some r
def mm_le (c1 c2 : MCl) : Prop := ∀ tg as h r, c1 tg as h = some r → c2 tg as h = some r
theorem mm_iv_mono {c1 c2 : MCl} (hc : mm_le c1 c2) {pc : Nat} {ls : MLo} {st : List MV} {h0 : MH} {tg m : Nat} {q : MSt} (h : mm_iv c1 pc ls st h0 tg m = some q) : mm_iv c2 pc ls st h0 tg m = some q := by
  unfold mm_iv at h ⊢
  obtain ⟨h2, g⟩ := mm_bif h
  rw [h2]
  dsimp only [cond_true]
  split at g
  · rename_i heq
    rw [hc _ _ _ _ heq]
    exact g
  · cases g
theorem mm_rc_of {st : List MV} {nn kr : Nat} {f : Nat → MAc} (hst : st[nn]? = some (.inr (.inl (some kr)))) (hk : kr < mm_NP) : mm_rc st nn f = f kr := by
  unfold mm_rc
  rw [hst]
  dsimp only
  rw [show Nat.ble mm_NP kr = false from by
    cases hb : Nat.ble mm_NP kr with
    | false => rfl
    | true => exact absurd (Nat.le_of_ble_eq_true hb) (Nat.not_le.mpr hk)]
  rfl
theorem mm_ac_mono {c1 c2 : MCl} (hc : mm_le c1 c2) {pc : Nat} {ls : MLo} {st : List MV} {h0 : MH} {i : Instr} {n a b : Nat} {z : Int} {q : MSt} (h : mm_ac c1 pc ls st h0 i n a b z = some q) : mm_ac c2 pc ls st h0 i n a b z = some q := by
  cases i
  case invokevirtual ix =>
    obtain ⟨kr, hst, hkr, g⟩ := mm_rcI (st := st) (nn := z.toNat) h
    refine (mm_rc_of hst hkr).trans ?_
    by_cases a4 : a = 4
    · rw [show Nat.beq a 4 = true from by rw [a4]; rfl] at g ⊢
      dsimp only [cond_true] at g ⊢
      split at g
      · rename_i ci hci
        try rw [hci]
        try dsimp only
        split at g
        · rename_i tg sl hvf
          try rw [hvf]
          exact mm_iv_mono hc g
        · cases g
      · cases g
    · rw [show Nat.beq a 4 = false from mm_bne a4] at g ⊢
      dsimp only [cond_false] at g ⊢
      obtain ⟨h9, g2⟩ := mm_bif g
      rw [h9]
      exact mm_iv_mono hc g2
  case invokespecial ix =>
    obtain ⟨kr, hst, hkr, g⟩ := mm_rcI (st := st) (nn := z.toNat) h
    refine (mm_rc_of hst hkr).trans ?_
    split at g
    · rename_i ci hci
      try rw [hci]
      exact mm_iv_mono hc g
    · cases g
  case invokestatic ix =>
    unfold mm_ac at h ⊢
    dsimp only at h ⊢
    generalize Nat.beq a 8 = b8 at h ⊢
    generalize Nat.beq a 5 = b5 at h ⊢
    generalize Nat.beq a 6 = b6 at h ⊢
    generalize Nat.beq a 7 = b7 at h ⊢
    cases b8 <;> cases b5 <;> cases b6 <;> cases b7 <;> first | exact h | exact mm_iv_mono hc h
  all_goals exact h
theorem mm_ex_mono {c1 c2 : MCl} (hc : mm_le c1 c2) {mid : Nat} {r : MRs} : ∀ (n m pc : Nat) (lo : MLo) (st : List MV) (h0 : MH), n ≤ m → mm_ex c1 mid n pc lo st h0 = some r → mm_ex c2 mid m pc lo st h0 = some r
  | 0, _, _, _, _, _, _, h => by cases h
  | n + 1, 0, _, _, _, _, hnm, _ => absurd hnm (Nat.not_succ_le_zero n)
  | n + 1, m + 1, pc, lo, st, h0, hnm, h => by
    unfold mm_ex at h ⊢
    cases hcd : mm_code mid pc with
    | none => rw [hcd] at h; cases h
    | some q =>
      obtain ⟨i, w, a, b, cw, z⟩ := q
      rw [hcd] at h
      dsimp only at h ⊢
      cases hrt : mm_rtn i a st h0 with
      | some x =>
        rw [hrt] at h
        exact h
      | none =>
        rw [hrt] at h
        dsimp only at h ⊢
        cases hac : mm_ac c1 pc lo st h0 i w a b z with
        | none => rw [hac] at h; cases h
        | some y =>
          obtain ⟨pc', lo', st', h1⟩ := y
          rw [hac] at h
          rw [mm_ac_mono hc hac]
          exact mm_ex_mono hc n m pc' lo' st' h1 (Nat.le_of_succ_le_succ hnm) h
theorem mm_run_mono : ∀ (d d' n n' : Nat), d ≤ d' → n ≤ n' → mm_le (mm_run d n) (mm_run d' n')
  | 0, _, _, _, _, _ => fun _ _ _ _ h => by cases h
  | d + 1, 0, _, _, hd, _ => absurd hd (Nat.not_succ_le_zero d)
  | d + 1, d' + 1, n, n', hd, hn => fun tg as h r hh => by
    unfold mm_run at hh ⊢
    obtain ⟨g1, g⟩ := mm_bin hh
    obtain ⟨g2, g3⟩ := mm_bif g
    rw [g1, g2]
    exact mm_ex_mono (mm_run_mono d d' n n' (Nat.le_of_succ_le_succ hd) hn) n n' 0 _ [] h hn g3
theorem go_step {d mid pc pc' : Nat} {lo lo' : MLo} {st st' : List MV} {h h' : MH} {r : MRs} {i : Instr} {w a b cw : Nat} {z : Int} (hc : mm_code mid pc = some (i, w, a, b, cw, z)) (hr : mm_rtn i a st h = none) (hs : ∀ call, mm_ac call pc lo st h i w a b z = some (pc', lo', st', h')) (k : Go d mid pc' lo' st' h' r) : Go d mid pc lo st h r := by
  obtain ⟨n, hn⟩ := k
  refine ⟨n + 1, ?_⟩
  unfold mm_ex
  rw [hc]
  dsimp only
  rw [hr]
  dsimp only
  rw [hs]
  exact mm_ex_mono (mm_run_mono d d n (n + 1) (Nat.le_refl d) (Nat.le_succ n)) n n pc' lo' st' h' (Nat.le_refl n) hn
theorem go_ret {d mid pc : Nat} {lo : MLo} {st : List MV} {h : MH} {r : MRs} {i : Instr} {w a b cw : Nat} {z : Int} (hc : mm_code mid pc = some (i, w, a, b, cw, z)) (hr : mm_rtn i a st h = some r) : Go d mid pc lo st h r := by
  refine ⟨1, ?_⟩
  unfold mm_ex
  rw [hc]
  dsimp only
  rw [hr]
theorem ex_of {d mid : Nat} {as : List MV} {h : MH} {r : MRs} (h1 : Nat.ble mm_NM mid = false) (h2 : Nat.ble (mm_sum as) (mm_ml mid) = true) (k : Go d mid 0 (mm_lf (mm_args 0 as)) [] h r) : Ex (d + 1) mid as h r := by
  obtain ⟨n, hn⟩ := k
  refine ⟨n, ?_⟩
  unfold mm_run
  rw [h1, h2]
  exact hn
theorem ex_up {d d' mid : Nat} {as : List MV} {h : MH} {r : MRs} (hd : d ≤ d') (k : Ex d mid as h r) : Ex d' mid as h r := by
  obtain ⟨n, hn⟩ := k
  exact ⟨n, mm_run_mono d d' n n hd (Nat.le_refl n) _ _ _ _ hn⟩
theorem go_call {d mid pc tg m : Nat} {lo : MLo} {st : List MV} {h h' : MH} {rv : Option MV} {r : MRs} {i : Instr} {w a b cw : Nat} {z : Int} (hc : mm_code mid pc = some (i, w, a, b, cw, z)) (hr : mm_rtn i a st h = none) (hs : ∀ call, mm_ac call pc lo st h i w a b z = mm_iv call pc lo st h tg m) (hm : Nat.ble m st.length = true) (hsum : Nat.ble (mm_sum (st.drop m)) 8 = true)
    (he : Ex d tg (st.take m).reverse h (rv, h')) (k : Go d mid (pc + 3) lo (rv.toList ++ st.drop m) h' r) : Go d mid pc lo st h r := by
  obtain ⟨n, hn⟩ := k
  obtain ⟨n2, hn2⟩ := he
  refine ⟨max n n2 + 1, ?_⟩
  unfold mm_ex
  rw [hc]
  dsimp only
  rw [hr]
  dsimp only
  rw [hs]
  have e : mm_iv (mm_run d (max n n2 + 1)) pc lo st h tg m = some (pc + 3, lo, rv.toList ++ st.drop m, h') := by
    unfold mm_iv
    rw [hm, hsum, mm_run_mono d d n2 (max n n2 + 1) (Nat.le_refl d) (Nat.le_trans (Nat.le_max_right n n2) (Nat.le_succ _)) _ _ _ _ hn2]
    rfl
  rw [e]
  exact mm_ex_mono (mm_run_mono d d n (max n n2 + 1) (Nat.le_refl d) (Nat.le_trans (Nat.le_max_left n n2) (Nat.le_succ _))) n (max n n2) _ _ _ _ (Nat.le_max_left n n2) hn
theorem go_lo {d mid pc : Nat} {lo lo' : MLo} {st : List MV} {h : MH} {r : MRs} (e : lo = lo') (k : Go d mid pc lo' st h r) : Go d mid pc lo st h r := by rw [e]; exact k
-- locals that are known in less places: what runs with them runs with more
def mm_sub (lo lo' : MLo) : Prop := ∀ j v, lo' j = some v → lo j = some v

theorem mm_sub_set {lo lo' : MLo} (h : mm_sub lo lo') (i : Nat) (v : MV) : mm_sub (mm_set lo i v) (mm_set lo' i v) := by
  intro j w hj
  unfold mm_set at hj ⊢
  cases hb : Nat.beq j i with
  | true => rw [hb] at hj; exact hj
  | false =>
    rw [hb] at hj
    dsimp only [cond_false] at hj ⊢
    cases hb2 : Nat.beq (j + 1) i with
    | false => rw [hb2] at hj; exact h j w hj
    | true =>
      rw [hb2] at hj
      dsimp only [cond_true] at hj ⊢
      unfold mm_dl at hj ⊢
      cases hl : lo' j with
      | none => rw [hl] at hj; cases hj
      | some u =>
        rw [hl] at hj
        rw [h j u hl]
        exact hj
theorem mm_sub_set2 {lo lo' : MLo} (h : mm_sub lo lo') (i : Nat) (v : MV) : mm_sub (mm_set2 lo i v) (mm_set2 lo' i v) := by
  intro j w hj
  unfold mm_set2 at hj ⊢
  cases hb : Nat.beq j i with
  | true => rw [hb] at hj; exact hj
  | false =>
    rw [hb] at hj
    dsimp only [cond_false] at hj ⊢
    cases hb3 : Nat.beq j (i + 1) with
    | true => rw [hb3] at hj; cases hj
    | false =>
    rw [hb3] at hj
    dsimp only [cond_false] at hj ⊢
    cases hb2 : Nat.beq (j + 1) i with
    | false => rw [hb2] at hj; exact h j w hj
    | true =>
      rw [hb2] at hj
      dsimp only [cond_true] at hj ⊢
      unfold mm_dl at hj ⊢
      cases hl : lo' j with
      | none => rw [hl] at hj; cases hj
      | some u =>
        rw [hl] at hj
        rw [h j u hl]
        exact hj
/-- a step from less known locals is a step from more -/
def mm_sim2 (lo : MLo) (x y : MAc) : Prop := ∀ pc1 lo1 st1 h1, x = some (pc1, lo1, st1, h1) → ∃ lo2, y = some (pc1, lo2, st1, h1) ∧ mm_sub lo2 lo1
theorem mm_nxS {lo lo' : MLo} (hs : mm_sub lo lo') {pc : Nat} {st : List MV} {h : MH} : ∀ pc1 lo1 st1 h1, mm_nx pc lo' st h = some (pc1, lo1, st1, h1) → ∃ lo2, mm_nx pc lo st h = some (pc1, lo2, st1, h1) ∧ mm_sub lo2 lo1 := by
  intro pc1 lo1 st1 h1 e
  obtain ⟨rfl, rfl, rfl, rfl⟩ := mm_nxI e
  exact ⟨lo, rfl, hs⟩
theorem mm_rcS {st : List MV} {n : Nat} {f g : Nat → MAc} {q : MSt} (h : mm_rc st n f = some q) : ∃ kr, (∀ g : Nat → MAc, mm_rc st n g = g kr) ∧ f kr = some q := by
  obtain ⟨kr, h1, h2, h3⟩ := mm_rcI h
  exact ⟨kr, fun g => mm_rc_of h1 h2, h3⟩
theorem mm_ivS {call : MCl} {lo lo' : MLo} (hs : mm_sub lo lo') {pc : Nat} {st : List MV} {h : MH} {tg m : Nat} : ∀ pc1 lo1 st1 h1, mm_iv call pc lo' st h tg m = some (pc1, lo1, st1, h1) → ∃ lo2, mm_iv call pc lo st h tg m = some (pc1, lo2, st1, h1) ∧ mm_sub lo2 lo1 := by
  intro pc1 lo1 st1 h1 e
  unfold mm_iv at e ⊢
  obtain ⟨h2, g⟩ := mm_bif e
  rw [h2]
  dsimp only [cond_true]
  split at g
  · exact mm_nxS hs _ _ _ _ g
  · cases g

theorem mm_acS {call : MCl} {lo lo' : MLo} (hs : mm_sub lo lo') {pc : Nat} {st : List MV} {h : MH} {i : Instr} {w a b : Nat} {z : Int} : ∀ pc1 lo1 st1 h1, mm_ac call pc lo' st h i w a b z = some (pc1, lo1, st1, h1) → ∃ lo2, mm_ac call pc lo st h i w a b z = some (pc1, lo2, st1, h1) ∧ mm_sub lo2 lo1 := by
  intro pc1 lo1 st1 h1 e
  cases i
  case iload_n q => obtain ⟨x, hq, g⟩ := mm_liI e; obtain ⟨lo2, g2, g3⟩ := mm_nxS hs _ _ _ _ g; exact ⟨lo2, by show mm_li (lo q) _ = _; rw [hs _ _ hq]; exact g2, g3⟩
  case iload q => obtain ⟨x, hq, g⟩ := mm_liI e; obtain ⟨lo2, g2, g3⟩ := mm_nxS hs _ _ _ _ g; exact ⟨lo2, by show mm_li (lo q) _ = _; rw [hs _ _ hq]; exact g2, g3⟩
  case aload_n q => obtain ⟨x, hq, g⟩ := mm_lrI e; obtain ⟨lo2, g2, g3⟩ := mm_nxS hs _ _ _ _ g; exact ⟨lo2, by show mm_lr (lo q) _ = _; rw [hs _ _ hq]; exact g2, g3⟩
  case aload q => obtain ⟨x, hq, g⟩ := mm_lrI e; obtain ⟨lo2, g2, g3⟩ := mm_nxS hs _ _ _ _ g; exact ⟨lo2, by show mm_lr (lo q) _ = _; rw [hs _ _ hq]; exact g2, g3⟩
  case lload_n q => obtain ⟨x, hq, g⟩ := mm_llI e; obtain ⟨lo2, g2, g3⟩ := mm_nxS hs _ _ _ _ g; exact ⟨lo2, by show mm_ll (lo q) _ = _; rw [hs _ _ hq]; exact g2, g3⟩
  case lload q => obtain ⟨x, hq, g⟩ := mm_llI e; obtain ⟨lo2, g2, g3⟩ := mm_nxS hs _ _ _ _ g; exact ⟨lo2, by show mm_ll (lo q) _ = _; rw [hs _ _ hq]; exact g2, g3⟩
  case istore_n q => obtain ⟨x, r, rfl, g⟩ := mm_1I e; obtain ⟨rfl, rfl, rfl, rfl⟩ := mm_nxI g; exact ⟨_, rfl, mm_sub_set hs _ _⟩
  case istore q => obtain ⟨x, r, rfl, g⟩ := mm_1I e; obtain ⟨rfl, rfl, rfl, rfl⟩ := mm_nxI g; exact ⟨_, rfl, mm_sub_set hs _ _⟩
  case astore_n q => obtain ⟨x, r, rfl, g⟩ := mm_r1I e; obtain ⟨rfl, rfl, rfl, rfl⟩ := mm_nxI g; exact ⟨_, rfl, mm_sub_set hs _ _⟩
  case lstore_n q => obtain ⟨x, r, rfl, g⟩ := mm_l1I e; obtain ⟨rfl, rfl, rfl, rfl⟩ := mm_nxI g; exact ⟨_, rfl, mm_sub_set2 hs _ _⟩
  case lstore q => obtain ⟨x, r, rfl, g⟩ := mm_l1I e; obtain ⟨rfl, rfl, rfl, rfl⟩ := mm_nxI g; exact ⟨_, rfl, mm_sub_set2 hs _ _⟩
  case iinc q dd =>
    obtain ⟨x, hq, g⟩ := mm_liI e
    obtain ⟨g1, g2⟩ := mm_bif g
    obtain ⟨rfl, rfl, rfl, rfl⟩ := mm_nxI g2
    refine ⟨mm_set lo q (.inl (x + Int32.ofInt dd)), ?_, mm_sub_set hs _ _⟩
    show mm_li (lo q) _ = _
    rw [hs _ _ hq]
    show (bif Nat.beq w 3 then _ else none) = _
    rw [g1]
    rfl
  case dup =>
    cases st with
    | nil => cases e
    | cons v r =>
      obtain ⟨g1, g⟩ := mm_bif e
      obtain ⟨lo2, g2, g3⟩ := mm_nxS hs _ _ _ _ g
      exact ⟨lo2, by show (bif Nat.beq (mm_cat v) 1 then _ else none) = _; rw [g1]; exact g2, g3⟩
  case pop =>
    cases st with
    | nil => cases e
    | cons v r =>
      obtain ⟨g1, g⟩ := mm_bif e
      obtain ⟨lo2, g2, g3⟩ := mm_nxS hs _ _ _ _ g
      exact ⟨lo2, by show (bif Nat.beq (mm_cat v) 1 then _ else none) = _; rw [g1]; exact g2, g3⟩
  case dup2 =>
    cases st with
    | nil => cases e
    | cons v r =>
      cases r with
      | nil => cases e
      | cons u r =>
        obtain ⟨g1, g⟩ := mm_bif e
        obtain ⟨lo2, g2, g3⟩ := mm_nxS hs _ _ _ _ g
        exact ⟨lo2, by show (bif Nat.beq (mm_cat v) 1 && Nat.beq (mm_cat u) 1 then _ else none) = _; rw [g1]; exact g2, g3⟩
  case invokevirtual ix =>
    obtain ⟨kr, hk, g⟩ := mm_rcS (st := st) (n := z.toNat) (g := fun _ => none) e
    obtain ⟨lo2, g2, g3⟩ : ∃ lo2, (fun k => bif Nat.beq a 4 then (match mm_cls k with | some ci => (match mm_vf mm_vt ci b with | some (tg, _) => mm_iv call pc lo st h tg (z.toNat + 1) | none => none) | none => none) else bif decide (mm_cls k = some (mm_tc b)) then mm_iv call pc lo st h b (z.toNat + 1) else none) kr = some (pc1, lo2, st1, h1) ∧ mm_sub lo2 lo1 := by
      dsimp only at g ⊢
      by_cases a4 : a = 4
      · rw [show Nat.beq a 4 = true from by rw [a4]; rfl] at g ⊢
        dsimp only [cond_true] at g ⊢
        split at g
        · rename_i ci hci
          try rw [hci]
          try dsimp only
          split at g
          · rename_i tg sl hvf
            try rw [hvf]
            exact mm_ivS hs _ _ _ _ g
          · cases g
        · cases g
      · rw [show Nat.beq a 4 = false from mm_bne a4] at g ⊢
        dsimp only [cond_false] at g ⊢
        obtain ⟨h9, g2⟩ := mm_bif g
        rw [h9]
        exact mm_ivS hs _ _ _ _ g2
    exact ⟨lo2, (hk _).trans g2, g3⟩
  case invokespecial ix =>
    obtain ⟨kr, hk, g⟩ := mm_rcS (st := st) (n := z.toNat) (g := fun _ => none) e
    obtain ⟨lo2, g2, g3⟩ : ∃ lo2, (fun k => match mm_cls k with | some _ => mm_iv call pc lo st h b (z.toNat + 1) | none => none) kr = some (pc1, lo2, st1, h1) ∧ mm_sub lo2 lo1 := by
      dsimp only at g ⊢
      split at g
      · rename_i ci hci
        try rw [hci]
        exact mm_ivS hs _ _ _ _ g
      · cases g
    exact ⟨lo2, (hk _).trans g2, g3⟩
  case invokestatic ix =>
    unfold mm_ac at e ⊢
    dsimp only at e ⊢
    by_cases a8 : a = 8
    · rw [show Nat.beq a 8 = true from by rw [a8]; rfl] at e ⊢
      obtain ⟨nn, dp, kd, sp, ks, r, ns, nd, rfl, hs1, hs2, h2, g9⟩ := mm_cpI e
      obtain ⟨lo2, g2, g3⟩ := mm_nxS hs _ _ _ _ g9
      refine ⟨lo2, ?_, g3⟩
      dsimp only [cond_true]
      unfold mm_cp
      dsimp only
      rw [hs1, hs2]
      dsimp only
      rw [h2]
      exact g2
    rw [show Nat.beq a 8 = false from mm_bne a8] at e ⊢
    dsimp only [cond_false] at e ⊢
    by_cases a5 : a = 5
    · rw [show Nat.beq a 5 = true from by rw [a5]; rfl] at e ⊢
      obtain ⟨x, y, r, rfl, g⟩ := mm_2I (st := st) e
      obtain ⟨g1, g⟩ := mm_bif g
      obtain ⟨lo2, g2, g3⟩ := mm_nxS hs _ _ _ _ g
      exact ⟨lo2, by show (bif Nat.ble (mm_sum r) 8 then _ else none) = _; rw [g1]; exact g2, g3⟩
    rw [show Nat.beq a 5 = false from mm_bne a5] at e ⊢
    dsimp only [cond_false] at e ⊢
    by_cases a6 : a = 6
    · rw [show Nat.beq a 6 = true from by rw [a6]; rfl] at e ⊢
      obtain ⟨x, y, r, rfl, g⟩ := mm_2I (st := st) e
      obtain ⟨g1, g⟩ := mm_bif g
      obtain ⟨lo2, g2, g3⟩ := mm_nxS hs _ _ _ _ g
      exact ⟨lo2, by show (bif Nat.ble (mm_sum r) 8 then _ else none) = _; rw [g1]; exact g2, g3⟩
    rw [show Nat.beq a 6 = false from mm_bne a6] at e ⊢
    dsimp only [cond_false] at e ⊢
    by_cases a7 : a = 7
    · rw [show Nat.beq a 7 = true from by rw [a7]; rfl] at e ⊢
      obtain ⟨x, r, rfl, g⟩ := mm_1I (st := st) e
      obtain ⟨g1, g⟩ := mm_bif g
      obtain ⟨lo2, g2, g3⟩ := mm_nxS hs _ _ _ _ g
      exact ⟨lo2, by show (bif Nat.ble (mm_sum r) 8 then _ else none) = _; rw [g1]; exact g2, g3⟩
    rw [show Nat.beq a 7 = false from mm_bne a7] at e ⊢
    exact mm_ivS hs _ _ _ _ e
  case tableswitch df q1 q2 offs =>
    obtain ⟨x, r, rfl, g⟩ := mm_1I e
    cases ht : mm_tsw df q1 q2 offs x with
    | none => rw [ht] at g; cases g
    | some off =>
      rw [ht] at g
      obtain ⟨t, ht2, g2⟩ := mm_tnI (z := (pc : Int) + off) g
      obtain ⟨lo2, g4, g3⟩ := mm_nxS hs _ _ _ _ g2
      refine ⟨lo2, ?_, g3⟩
      show (match mm_tsw df q1 q2 offs x with | some off => mm_tn ((pc : Int) + off) (fun t => mm_nx t lo r h) | none => none) = _
      rw [ht]
      dsimp only
      rw [ht2]
      exact g4
  case lookupswitch df ps =>
    obtain ⟨x, r, rfl, g⟩ := mm_1I e
    obtain ⟨t, ht2, g2⟩ := mm_tnI g
    obtain ⟨lo2, g4, g3⟩ := mm_nxS hs _ _ _ _ g2
    refine ⟨lo2, ?_, g3⟩
    show mm_tn _ (fun t => mm_nx t lo r h) = _
    rw [ht2]
    exact g4
  case getfield ix =>
    obtain ⟨x, r, rfl, g⟩ := mm_r1I e
    obtain ⟨hx9, fl, fo, hs1, hfo, g1⟩ := mm_gfI g
    obtain ⟨rfl, rfl, rfl, rfl⟩ := mm_nxI g1
    refine ⟨lo, ?_, hs⟩
    show mm_gf x a b h (fun v => mm_nx (pc + 3) lo (v :: r) h) = some (pc + 3, lo, mm_fm h x b fo :: r, h)
    unfold mm_gf
    rw [show Nat.ble mm_NP x = false from by
      cases hb : Nat.ble mm_NP x with
      | false => rfl
      | true => exact absurd (Nat.le_of_ble_eq_true hb) (Nat.not_le.mpr hx9)]
    dsimp only [cond_false]
    rw [hs1]
    dsimp only
    rw [show Nat.beq a a = true from Nat.beq_refl a]
    dsimp only [cond_true]
    rw [hfo]
    cases fo <;> rfl
  case putfield ix =>
    cases st with
    | nil => cases e
    | cons v r0 =>
      obtain ⟨x, r, rfl, g⟩ := mm_r1I (st := r0) e
      obtain ⟨hx9, fl, hs1, hh⟩ := mm_pfI g
      have hb0 : Nat.ble mm_NP x = false := by
        cases hb : Nat.ble mm_NP x with
        | false => rfl
        | true => exact absurd (Nat.le_of_ble_eq_true hb) (Nat.not_le.mpr hx9)
      refine ⟨lo, ?_, ?_⟩
      · show mm_pf x a b z v h (fun h' => mm_nx (pc + 3) lo r h') = _
        unfold mm_pf
        rw [hb0]
        dsimp only [cond_false]
        rw [hs1]
        dsimp only
        rw [show Nat.beq a a = true from Nat.beq_refl a]
        dsimp only [cond_true]
        rcases hh with ⟨y, rfl, hfo, hy, g1⟩ | ⟨rr, q0, rfl, hxk, hbk, hz2, hfo, g1⟩
        · obtain ⟨rfl, rfl, rfl, rfl⟩ := mm_nxI g1
          rw [hfo]
          dsimp only
          rw [show (decide (z < 2) || decide (y &&& 1 = y)) = true from by
            rw [Bool.or_eq_true]; exact hy.imp decide_eq_true decide_eq_true]
          rfl
        · obtain ⟨rfl, rfl, rfl, rfl⟩ := mm_nxI g1
          rw [hfo]
          dsimp only
          rw [show (Nat.beq x mm_kp && Nat.beq b mm_kf && decide (z < 2)) = true from by
            rw [hxk, hbk, decide_eq_true hz2]; rfl]
          rfl
      · rcases hh with ⟨y, rfl, hfo, hy, g1⟩ | ⟨rr, q0, rfl, hxk, hbk, hz2, hfo, g1⟩ <;> (obtain ⟨rfl, rfl, rfl, rfl⟩ := mm_nxI g1; exact hs)
  case iaload =>
    obtain ⟨x, r0, rfl, g⟩ := mm_1I e
    obtain ⟨k, r, rfl, g1⟩ := mm_r1I g
    have e0 : ∀ lo : MLo, mm_ac call pc lo (.inl x :: .inr (.inl (some k)) :: r) h .iaload w a b z = mm_ia k x h (fun y => mm_nx (pc + 1) lo (.inl y :: r) h) := fun _ => rfl
    rw [e0]
    unfold mm_ia at g1 ⊢
    split at g1
    · obtain ⟨g2, g3⟩ := mm_bif g1
      rw [g2]
      exact mm_nxS hs _ _ _ _ g3
    · obtain ⟨g2, g3⟩ := mm_bif g1
      rw [g2]
      exact mm_nxS hs _ _ _ _ g3
    · cases g1
  case iastore =>
    obtain ⟨x, y, r0, rfl, g⟩ := mm_2I e
    obtain ⟨k, r, rfl, g1⟩ := mm_r1I g
    have e0 : ∀ lo : MLo, mm_ac call pc lo (.inl y :: .inl x :: .inr (.inl (some k)) :: r) h .iastore w a b z = mm_is k x y h (fun h' => mm_nx (pc + 1) lo r h') := fun _ => rfl
    rw [e0]
    unfold mm_is at g1 ⊢
    obtain ⟨g2, g3⟩ := mm_bin g1
    rw [g2]
    dsimp only [cond_false]
    split at g3
    · obtain ⟨g4, g5⟩ := mm_bif g3
      rw [g4]
      exact mm_nxS hs _ _ _ _ g5
    · cases g3
  case aaload =>
    obtain ⟨x, r0, rfl, g⟩ := mm_1I e
    obtain ⟨k, r, rfl, g1⟩ := mm_r1I g
    have e0 : ∀ lo : MLo, mm_ac call pc lo (.inl x :: .inr (.inl (some k)) :: r) h .aaload w a b z = mm_aa k x (fun y => mm_nx (pc + 1) lo (.inr (.inl y) :: r) h) := fun _ => rfl
    rw [e0]
    unfold mm_aa at g1 ⊢
    obtain ⟨g2, g3⟩ := mm_bin g1
    rw [g2]
    dsimp only [cond_false]
    split at g3
    · obtain ⟨g4, g5⟩ := mm_bif g3
      rw [g4]
      exact mm_nxS hs _ _ _ _ g5
    · cases g3
  case arraylength =>
    obtain ⟨k, r, rfl, g1⟩ := mm_r1I e
    have e0 : ∀ lo : MLo, mm_ac call pc lo (.inr (.inl (some k)) :: r) h .arraylength w a b z = mm_al k (fun y => mm_nx (pc + 1) lo (.inl y :: r) h) := fun _ => rfl
    rw [e0]
    unfold mm_al at g1 ⊢
    obtain ⟨g2, g3⟩ := mm_bin g1
    rw [g2]
    dsimp only [cond_false]
    split at g3
    · exact mm_nxS hs _ _ _ _ g3
    · cases g3
  case iconst => exact mm_nxS hs _ _ _ _ e
  case bipush => exact mm_nxS hs _ _ _ _ e
  case sipush => exact mm_nxS hs _ _ _ _ e
  case ldc => exact mm_nxS hs _ _ _ _ e
  case ldc_w => exact mm_nxS hs _ _ _ _ e
  case ldc2_w => exact mm_nxS hs _ _ _ _ e
  case lconst => exact mm_nxS hs _ _ _ _ e
  case goto => exact mm_nxS hs _ _ _ _ e
  case getstatic => exact mm_nxS hs _ _ _ _ e
  case iadd => obtain ⟨x, y, r, rfl, g⟩ := mm_2I e; exact mm_nxS hs _ _ _ _ g
  case isub => obtain ⟨x, y, r, rfl, g⟩ := mm_2I e; exact mm_nxS hs _ _ _ _ g
  case imul => obtain ⟨x, y, r, rfl, g⟩ := mm_2I e; exact mm_nxS hs _ _ _ _ g
  case iand => obtain ⟨x, y, r, rfl, g⟩ := mm_2I e; exact mm_nxS hs _ _ _ _ g
  case ior => obtain ⟨x, y, r, rfl, g⟩ := mm_2I e; exact mm_nxS hs _ _ _ _ g
  case ixor => obtain ⟨x, y, r, rfl, g⟩ := mm_2I e; exact mm_nxS hs _ _ _ _ g
  case ishl => obtain ⟨x, y, r, rfl, g⟩ := mm_2I e; exact mm_nxS hs _ _ _ _ g
  case ishr => obtain ⟨x, y, r, rfl, g⟩ := mm_2I e; exact mm_nxS hs _ _ _ _ g
  case iushr => obtain ⟨x, y, r, rfl, g⟩ := mm_2I e; exact mm_nxS hs _ _ _ _ g
  case idiv => obtain ⟨x, y, r, rfl, g⟩ := mm_2I e; obtain ⟨g1, g⟩ := mm_bin g; obtain ⟨lo2, g2, g3⟩ := mm_nxS hs _ _ _ _ g; exact ⟨lo2, by show (bif decide (y = 0) then none else _) = _; rw [g1]; exact g2, g3⟩
  case irem => obtain ⟨x, y, r, rfl, g⟩ := mm_2I e; obtain ⟨g1, g⟩ := mm_bin g; obtain ⟨lo2, g2, g3⟩ := mm_nxS hs _ _ _ _ g; exact ⟨lo2, by show (bif decide (y = 0) then none else _) = _; rw [g1]; exact g2, g3⟩
  case ineg => obtain ⟨x, r, rfl, g⟩ := mm_1I e; exact mm_nxS hs _ _ _ _ g
  case i2l => obtain ⟨x, r, rfl, g⟩ := mm_1I e; exact mm_nxS hs _ _ _ _ g
  case ifCond cnd off => obtain ⟨x, r, rfl, g⟩ := mm_1I e; exact mm_nxS hs _ _ _ _ g
  case if_icmp cnd off => obtain ⟨x, y, r, rfl, g⟩ := mm_2I e; exact mm_nxS hs _ _ _ _ g
  case lsub => obtain ⟨x, y, r, rfl, g⟩ := mm_l2I e; exact mm_nxS hs _ _ _ _ g
  case lmul => obtain ⟨x, y, r, rfl, g⟩ := mm_l2I e; exact mm_nxS hs _ _ _ _ g
  case lcmp => obtain ⟨x, y, r, rfl, g⟩ := mm_l2I e; exact mm_nxS hs _ _ _ _ g
  case ldiv => obtain ⟨x, y, r, rfl, g⟩ := mm_l2I e; obtain ⟨g1, g⟩ := mm_bin g; obtain ⟨lo2, g2, g3⟩ := mm_nxS hs _ _ _ _ g; exact ⟨lo2, by show (bif decide (y = 0) then none else _) = _; rw [g1]; exact g2, g3⟩
  case lrem => obtain ⟨x, y, r, rfl, g⟩ := mm_l2I e; obtain ⟨g1, g⟩ := mm_bin g; obtain ⟨lo2, g2, g3⟩ := mm_nxS hs _ _ _ _ g; exact ⟨lo2, by show (bif decide (y = 0) then none else _) = _; rw [g1]; exact g2, g3⟩
  all_goals exact absurd e (by intro w; cases w)
theorem mm_exS {call : MCl} {mid : Nat} {r : MRs} : ∀ (n pc : Nat) (lo lo' : MLo) (st : List MV) (h0 : MH), mm_sub lo lo' → mm_ex call mid n pc lo' st h0 = some r → mm_ex call mid n pc lo st h0 = some r
  | 0, _, _, _, _, _, _, h => by cases h
  | n + 1, pc, lo, lo', st, h0, hs, h => by
    unfold mm_ex at h ⊢
    cases hcd : mm_code mid pc with
    | none => rw [hcd] at h; cases h
    | some q =>
      obtain ⟨i, w, a, b, cw, z⟩ := q
      rw [hcd] at h
      dsimp only at h ⊢
      cases hrt : mm_rtn i a st h0 with
      | some x =>
        rw [hrt] at h
        exact h
      | none =>
        rw [hrt] at h
        dsimp only at h ⊢
        cases hac : mm_ac call pc lo' st h0 i w a b z with
        | none => rw [hac] at h; cases h
        | some y =>
          obtain ⟨pc', lo1, st', h1⟩ := y
          rw [hac] at h
          obtain ⟨lo2, e1, e2⟩ := mm_acS hs _ _ _ _ hac
          rw [e1]
          exact mm_exS n pc' lo2 lo1 st' h1 e2 h
theorem go_sub {d mid pc : Nat} {lo lo' : MLo} {st : List MV} {h : MH} {r : MRs} (hs : mm_sub lo lo') (k : Go d mid pc lo' st h r) : Go d mid pc lo st h r := by
  obtain ⟨n, hn⟩ := k
  exact ⟨n, mm_exS n pc lo lo' st h hs hn⟩
theorem mm_sub0 {lo : MLo} : mm_sub lo (mm_lf []) := fun j v h => by cases h
theorem mm_subc {lo : MLo} {i : Nat} {v : MV} {l : List (Nat × MV)} (h : lo i = some v) (hl : mm_sub lo (mm_lf l)) : mm_sub lo (mm_lf ((i, v) :: l)) := by
  intro j w hj
  unfold mm_lf at hj
  cases hb : Nat.beq j i with
  | true =>
    rw [hb] at hj
    cases hj
    rw [Nat.eq_of_beq_eq_true hb]
    exact h
  | false =>
    rw [hb] at hj
    exact hl j w hj
