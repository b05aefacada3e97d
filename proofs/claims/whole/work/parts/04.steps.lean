-- the mini machine is the machine: one lemma an instruction, then methods by induction over the depth of calls
theorem mm_bne {a b : Nat} (h : a ≠ b) : Nat.beq a b = false := by
  cases hh : Nat.beq a b with
  | false => rfl
  | true => exact absurd (Nat.eq_of_beq_eq_true hh) h
def mm_fr : List Int := [2, 3, 0, 1, 1, 0, 3, 2, 2, 0, 3, 1, 1, 0, 3, 2]
def mm_fv (ad : Nat → Nat) (h : MH) (k j : Nat) (f : Option (Option Nat)) : Value := match f with
  | none => .int (h.1 k j)
  | some r => va_rf ((mm_rf h k j r).map ad)
def mm_fs (ad : Nat → Nat) (h : MH) (k : Nat) : Nat → List (Option (Option Nat)) → List Value
  | _, [] => []
  | j, f :: l => mm_fv ad h k j f :: mm_fs ad h k (j + 1) l
theorem mm_fs_at (ad : Nat → Nat) (h : MH) (k : Nat) : ∀ (fl : List (Option (Option Nat))) (j b : Nat), (mm_fs ad h k j fl)[b]? = (fl[b]?).map (mm_fv ad h k (j + b))
  | [], j, b => by simp [mm_fs]
  | f :: l, j, 0 => by simp [mm_fs]
  | f :: l, j, b + 1 => by
    simp only [mm_fs, List.getElem?_cons_succ]
    rw [mm_fs_at ad h k l (j + 1) b, show j + 1 + b = j + (b + 1) by omega]
def mm_ent (cy : Nat → ClassId) (ad : Nat → Nat) (h : MH) (k : Nat) : va_E := match mm_sh k with
  | .inl n => .inl (cy 0, n, .inl (h.1 k))
  | .inr (.inl (ci, fl)) => .inr (ci, mm_fs ad h k 0 fl)
  | .inr (.inr (.inl (rs, t))) => .inl (cy t, rs.length, .inr (.inr (.inr (.inr (fun i => (rs.getD i none).map ad)))))
  | .inr (.inr (.inr _)) => .inl (cy 0, 0, .inl (h.1 k))
def mm_ws (cy : Nat → ClassId) (ad : Nat → Nat) (h : MH) : va_W := (List.range mm_NP).map (fun k => (ad k, mm_ent cy ad h k))
theorem mm_ws_at {cy : Nat → ClassId} {ad : Nat → Nat} {h : MH} {k : Nat} (hk : k < mm_NP) : (mm_ws cy ad h)[k]? = some (ad k, mm_ent cy ad h k) := by
  unfold mm_ws
  rw [List.getElem?_map, List.getElem?_range hk]
  rfl
abbrev mm_tys (cy : Nat → ClassId) : List (ClassId × FieldType) := [(cy 0, .int), (cy 1, .object "BothCorners$Way"), (cy 2, .array .int)]
/-- words of nest mates: they hold in every state that the machine comes to, but no table rule carries them -/
def mm_isN : Jvm.Cond → Bool
  | .fieldLinkNest _ _ _ _ _ _ => true
  | .methodLinkNest _ _ _ _ => true
  | _ => false
def lw_g : List Jvm.Cond := lw_tbl.filter goodWord
def mm_Nst (U : State) : Prop := ∀ w ∈ lw_tbl, mm_isN w = true → va_Nw w U
def mm_hts (args : Array Value) (s : State) : Prop := ∀ w ∈ lw_tbl, (goodWord w || mm_isN w) = true → w.before args s = true
theorem mm_hg {args : Array Value} {s : State} (h : mm_hts args s) : ∀ w ∈ lw_g, w.before args s = true := fun w hw => h w (List.mem_filter.mp hw).1 (by rw [(List.mem_filter.mp hw).2]; rfl)
def mm_St (ad : Nat → Nat) (A : Nat → Prop) (U : State) (H : Heap) : Prop := va_Z "BothCorners$Lies" "FROM" "[I" (.ref (ad mm_NP)) A U H ∧ va_T .int (ad mm_NP) 16 (fun j => .int (Int32.ofInt (mm_fr.getD j 0))) A U H
def mm_Wd (D : va_G) (cy : Nat → ClassId) (ad : Nat → Nat) (A : Nat → Prop) (h : MH) (U : State) (H : Heap) : Prop := va_P D vwCl (mm_ws cy ad h) H ∧ va_K D vwCl (mm_tys cy) U ∧ va_D A (mm_ws cy ad h) ∧ mm_St ad A U H ∧ mm_Nst U
def mm_fix (p : Program) (s : State) (m : MethodId) (args : Array Value) (meth : Method) (c : Code) (mid : Nat) (D : va_G) (cy : Nat → ClassId) (ad : Nat → Nat) (A : Nat → Prop) : Prop :=
  p.tables.exec = Jvm.exec ∧ c.code = mm_by mid ∧ meth.sig.returnType = mm_rt mid ∧ c.maxLocals = mm_ml mid ∧ s.vm.findClass (mm_cn (mm_tc mid)) = some m.cls ∧ mm_hts args s ∧ meth.locks = false ∧ va_K D vwCl (mm_tys cy) s ∧ mm_St ad A s s.heap
def mm_dyn (D : va_G) (cy : Nat → ClassId) (ad : Nat → Nat) (A : Nat → Prop) (s : State) (H : Heap) (locs : List Loc) (h : MH) : Prop := va_P D vwCl (mm_ws cy ad h) H ∧ va_D A (mm_ws cy ad h) ∧ va_S A s.heap H locs
def mm_loc (ad : Nat → Nat) (fls : Array Slot) (nL : Nat) (lo : MLo) : Prop := fls.size = nL ∧ lv_wf fls ∧ ∀ (j : Nat) (v : MV), lo j = some v → fls[j]? = some (.val (mm_v ad v))
def mm_K (p : Program) (l : Launch) (e : Env) (R : Room) (s : State) (m : MethodId) (args : Array Value) (below : List Frame) (meth : Method) (c : Code) (Q : State → Prop) (D : va_G) (cy : Nat → ClassId) (ad : Nat → Nat) (A : Nat → Prop) (nL : Nat) (pc : Nat) (lo : MLo) (st : List MV) (h : MH) : Prop :=
  ∀ (H : Heap) (locs : List Loc) (fls : Array Slot), mm_dyn D cy ad A s H locs h → mm_loc ad fls nL lo → W p l e R s m args below meth c H locs 0 0 Q (F0 m pc fls (st.map (mm_v ad)))
theorem mm_nxI {a a' : Nat} {b b' : MLo} {c c' : List MV} {d d' : MH} (h : mm_nx a b c d = some (a', b', c', d')) : a = a' ∧ b = b' ∧ c = c' ∧ d = d' := by
  unfold mm_nx at h
  injection h with h
  injection h with h1 h
  injection h with h2 h
  injection h with h3 h4
  exact ⟨h1, h2, h3, h4⟩
theorem mm_1I {st : List MV} {f : Int32 → List MV → MAc} {q : MSt} (h : mm_1 st f = some q) : ∃ x r, st = .inl x :: r ∧ f x r = some q := by
  unfold mm_1 at h
  split at h
  · exact ⟨_, _, rfl, h⟩
  · cases h
theorem mm_2I {st : List MV} {f : Int32 → Int32 → List MV → MAc} {q : MSt} (h : mm_2 st f = some q) : ∃ x y r, st = .inl y :: .inl x :: r ∧ f x y r = some q := by
  unfold mm_2 at h
  split at h
  · exact ⟨_, _, _, rfl, h⟩
  · cases h
theorem mm_l1I {st : List MV} {f : Int64 → List MV → MAc} {q : MSt} (h : mm_l1 st f = some q) : ∃ x r, st = .inr (.inr x) :: r ∧ f x r = some q := by
  unfold mm_l1 at h
  split at h
  · exact ⟨_, _, rfl, h⟩
  · cases h
theorem mm_l2I {st : List MV} {f : Int64 → Int64 → List MV → MAc} {q : MSt} (h : mm_l2 st f = some q) : ∃ x y r, st = .inr (.inr y) :: .inr (.inr x) :: r ∧ f x y r = some q := by
  unfold mm_l2 at h
  split at h
  · exact ⟨_, _, _, rfl, h⟩
  · cases h
theorem mm_r1I {st : List MV} {f : Nat → List MV → MAc} {q : MSt} (h : mm_r1 st f = some q) : ∃ x r, st = .inr (.inl (some x)) :: r ∧ f x r = some q := by
  unfold mm_r1 at h
  split at h
  · exact ⟨_, _, rfl, h⟩
  · cases h
theorem mm_liI {o : Option MV} {f : Int32 → MAc} {q : MSt} (h : mm_li o f = some q) : ∃ x, o = some (.inl x) ∧ f x = some q := by
  unfold mm_li at h
  split at h
  · exact ⟨_, rfl, h⟩
  · cases h
theorem mm_lrI {o : Option MV} {f : Nat → MAc} {q : MSt} (h : mm_lr o f = some q) : ∃ x, o = some (.inr (.inl (some x))) ∧ f x = some q := by
  unfold mm_lr at h
  split at h
  · exact ⟨_, rfl, h⟩
  · cases h
theorem mm_llI {o : Option MV} {f : Int64 → MAc} {q : MSt} (h : mm_ll o f = some q) : ∃ x, o = some (.inr (.inr x)) ∧ f x = some q := by
  unfold mm_ll at h
  split at h
  · exact ⟨_, rfl, h⟩
  · cases h
theorem mm_tnI {z : Int} {f : Nat → MAc} {q : MSt} (h : mm_tn z f = some q) : ∃ n : Nat, z = (n : Int) ∧ f n = some q := by
  unfold mm_tn at h
  split at h
  · exact ⟨_, rfl, h⟩
  · cases h
theorem mm_bif {α : Type} {b : Bool} {x : Option α} {q : α} (h : (bif b then x else none) = some q) : b = true ∧ x = some q := by
  cases b with
  | true => exact ⟨rfl, h⟩
  | false => cases h
theorem mm_bin {α : Type} {b : Bool} {x : Option α} {q : α} (h : (bif b then none else x) = some q) : b = false ∧ x = some q := by
  cases b with
  | true => cases h
  | false => exact ⟨rfl, h⟩
theorem mm_catV (ad : Nat → Nat) (v : MV) : (mm_v ad v).category = mm_cat v := by
  rcases v with x | r | x
  · rfl
  · cases r <;> rfl
  · rfl
/-- locals as the kit lists them -/
def mm_lv (ad : Nat → Nat) (nL : Nat) (lo : MLo) : List (Nat × Value) := (List.range nL).filterMap (fun j => (lo j).map (fun v => (j, mm_v ad v)))
theorem mm_lv_mem {ad : Nat → Nat} {nL : Nat} {lo : MLo} {j : Nat} {v : MV} (hj : j < nL) (h : lo j = some v) : (j, mm_v ad v) ∈ mm_lv ad nL lo :=
  List.mem_filterMap.mpr ⟨j, List.mem_range.mpr hj, by rw [h]; rfl⟩
theorem mm_lv_has {ad : Nat → Nat} {fls : Array Slot} {nL : Nat} {lo : MLo} (h : mm_loc ad fls nL lo) : lv_has fls nL (mm_lv ad nL lo) := by
  refine ⟨h.1, h.2.1, fun q hq => ?_⟩
  obtain ⟨j, -, hj⟩ := List.mem_filterMap.mp hq
  cases hl : lo j with
  | none => rw [hl] at hj; cases hj
  | some v =>
    rw [hl] at hj
    cases hj
    exact h.2.2 j v hl
theorem mm_loc_lt {ad : Nat → Nat} {fls : Array Slot} {nL : Nat} {lo : MLo} (h : mm_loc ad fls nL lo) {j : Nat} {v : MV} (hj : lo j = some v) : j < nL := by
  rw [← h.1]
  exact lv_lt (h.2.2 j v hj)
theorem mm_loc_set {ad : Nat → Nat} {fls fls' : Array Slot} {nL : Nat} {lo : MLo} {i : Nat} {v : MV} (h : mm_loc ad fls nL lo) (hc : mm_cat v = 1) (hi : i < nL)
    (h' : lv_has fls' nL ((i, mm_v ad v) :: (mm_lv ad nL lo).filter (fun q => !(q.1 == i) && !(q.1 + 1 == i && q.2.category == 2)))) : mm_loc ad fls' nL (mm_set lo i v) := by
  refine ⟨h'.1, h'.2.1, fun j w hj => ?_⟩
  unfold mm_set at hj
  by_cases e1 : j = i
  · subst e1
    rw [Nat.beq_refl] at hj
    cases hj
    exact h'.2.2 (j, mm_v ad v) List.mem_cons_self
  · rw [show Nat.beq j i = false from mm_bne e1] at hj
    by_cases e2 : j + 1 = i
    · rw [show Nat.beq (j + 1) i = true from by rw [e2]; exact Nat.beq_refl i] at hj
      have hj : mm_dl (lo j) = some w := hj
      have hlo : lo j = some w ∧ ¬ mm_cat w = 2 := by
        cases hl : lo j with
        | none => rw [hl] at hj; cases hj
        | some u =>
          rw [hl] at hj
          rcases u with x | r | x
          · cases hj; exact ⟨rfl, by simp [mm_cat]⟩
          · cases hj; exact ⟨rfl, by simp [mm_cat]⟩
          · cases hj
      refine h'.2.2 (j, mm_v ad w) (List.mem_cons_of_mem _ (List.mem_filter.mpr ⟨mm_lv_mem (mm_loc_lt h hlo.1) hlo.1, ?_⟩))
      simp [e1, mm_catV, hlo.2]
    · rw [show Nat.beq (j + 1) i = false from mm_bne e2] at hj
      have hj : lo j = some w := hj
      refine h'.2.2 (j, mm_v ad w) (List.mem_cons_of_mem _ (List.mem_filter.mpr ⟨mm_lv_mem (mm_loc_lt h hj) hj, ?_⟩))
      simp [e1, e2]
theorem mm_loc_set2 {ad : Nat → Nat} {fls fls' : Array Slot} {nL : Nat} {lo : MLo} {i : Nat} {v : MV} (h : mm_loc ad fls nL lo)
    (h' : lv_has fls' nL ((i, mm_v ad v) :: (mm_lv ad nL lo).filter (fun q => !(q.1 == i) && (!(q.1 == i + 1) && !(q.1 + 1 == i && q.2.category == 2))))) : mm_loc ad fls' nL (mm_set2 lo i v) := by
  refine ⟨h'.1, h'.2.1, fun j w hj => ?_⟩
  unfold mm_set2 at hj
  by_cases e1 : j = i
  · subst e1
    rw [Nat.beq_refl] at hj
    cases hj
    exact h'.2.2 (j, mm_v ad v) List.mem_cons_self
  · rw [show Nat.beq j i = false from mm_bne e1] at hj
    by_cases e3 : j = i + 1
    · rw [show Nat.beq j (i + 1) = true from by rw [e3]; exact Nat.beq_refl _] at hj
      cases hj
    rw [show Nat.beq j (i + 1) = false from mm_bne e3] at hj
    by_cases e2 : j + 1 = i
    · rw [show Nat.beq (j + 1) i = true from by rw [e2]; exact Nat.beq_refl i] at hj
      have hj : mm_dl (lo j) = some w := hj
      have hlo : lo j = some w ∧ ¬ mm_cat w = 2 := by
        cases hl : lo j with
        | none => rw [hl] at hj; cases hj
        | some u =>
          rw [hl] at hj
          rcases u with x | r | x
          · cases hj; exact ⟨rfl, by simp [mm_cat]⟩
          · cases hj; exact ⟨rfl, by simp [mm_cat]⟩
          · cases hj
      refine h'.2.2 (j, mm_v ad w) (List.mem_cons_of_mem _ (List.mem_filter.mpr ⟨mm_lv_mem (mm_loc_lt h hlo.1) hlo.1, ?_⟩))
      simp [e1, e3, mm_catV, hlo.2]
    · rw [show Nat.beq (j + 1) i = false from mm_bne e2] at hj
      have hj : lo j = some w := hj
      refine h'.2.2 (j, mm_v ad w) (List.mem_cons_of_mem _ (List.mem_filter.mpr ⟨mm_lv_mem (mm_loc_lt h hj) hj, ?_⟩))
      simp [e1, e2, e3]

section MMS
variable {p : Program} {l : Launch} {e : Env} {R : Room} {s : State} {m : MethodId} {args : Array Value} {below : List Frame} {meth : Method} {c : Code} {Q : State → Prop}
variable {mid : Nat} {D : va_G} {cy : Nat → ClassId} {ad : Nat → Nat} {A : Nat → Prop} {call : MCl} {pc pc' n a b cw : Nat} {z : Int} {lo lo' : MLo} {st st' : List MV} {h0 h1 : MH}

theorem mm_s_iconst {v : Int} (C : mm_fix p s m args meth c mid D cy ad A) (hdg : decode (mm_by mid) pc = .ok (.iconst v, 1)) (hc : mm_chi (mm_cn (mm_tc mid)) (.iconst v) pc mid a b cw z = true) (h : mm_ac call pc lo st h0 (.iconst v) n a b z = some (pc', lo', st', h1))
    (k : mm_K p l e R s m args below meth c Q D cy ad A (mm_ml mid) pc' lo' st' h1) : mm_K p l e R s m args below meth c Q D cy ad A (mm_ml mid) pc lo st h0 := by
  obtain ⟨hx, hb, hr, hml, hown, hts, hlocks, hK, hZT⟩ := C
  intro H locs fls hd hl
  obtain ⟨rfl, rfl, rfl, rfl⟩ := mm_nxI h
  refine lv_iconst (v := Int32.ofInt v) hx hb hdg rfl ?_
  exact k H locs fls hd hl
theorem mm_s_bipush {v : Int} (C : mm_fix p s m args meth c mid D cy ad A) (hdg : decode (mm_by mid) pc = .ok (.bipush v, 2)) (hc : mm_chi (mm_cn (mm_tc mid)) (.bipush v) pc mid a b cw z = true) (h : mm_ac call pc lo st h0 (.bipush v) n a b z = some (pc', lo', st', h1))
    (k : mm_K p l e R s m args below meth c Q D cy ad A (mm_ml mid) pc' lo' st' h1) : mm_K p l e R s m args below meth c Q D cy ad A (mm_ml mid) pc lo st h0 := by
  obtain ⟨hx, hb, hr, hml, hown, hts, hlocks, hK, hZT⟩ := C
  intro H locs fls hd hl
  obtain ⟨rfl, rfl, rfl, rfl⟩ := mm_nxI h
  refine lv_bipush (v := (Int8.ofInt v).toInt32) hx hb hdg rfl ?_
  exact k H locs fls hd hl
theorem mm_s_sipush {v : Int} (C : mm_fix p s m args meth c mid D cy ad A) (hdg : decode (mm_by mid) pc = .ok (.sipush v, 3)) (hc : mm_chi (mm_cn (mm_tc mid)) (.sipush v) pc mid a b cw z = true) (h : mm_ac call pc lo st h0 (.sipush v) n a b z = some (pc', lo', st', h1))
    (k : mm_K p l e R s m args below meth c Q D cy ad A (mm_ml mid) pc' lo' st' h1) : mm_K p l e R s m args below meth c Q D cy ad A (mm_ml mid) pc lo st h0 := by
  obtain ⟨hx, hb, hr, hml, hown, hts, hlocks, hK, hZT⟩ := C
  intro H locs fls hd hl
  obtain ⟨rfl, rfl, rfl, rfl⟩ := mm_nxI h
  refine lv_sipush (v := (Int16.ofInt v).toInt32) hx hb hdg rfl ?_
  exact k H locs fls hd hl
theorem mm_s_lconst {v : Fin 2} (C : mm_fix p s m args meth c mid D cy ad A) (hdg : decode (mm_by mid) pc = .ok (.lconst v, 1)) (hc : mm_chi (mm_cn (mm_tc mid)) (.lconst v) pc mid a b cw z = true) (h : mm_ac call pc lo st h0 (.lconst v) n a b z = some (pc', lo', st', h1))
    (k : mm_K p l e R s m args below meth c Q D cy ad A (mm_ml mid) pc' lo' st' h1) : mm_K p l e R s m args below meth c Q D cy ad A (mm_ml mid) pc lo st h0 := by
  obtain ⟨hx, hb, hr, hml, hown, hts, hlocks, hK, hZT⟩ := C
  intro H locs fls hd hl
  obtain ⟨rfl, rfl, rfl, rfl⟩ := mm_nxI h
  refine lv_lconst (v := Int64.ofNat (v : Nat)) hx hb hdg rfl ?_
  exact k H locs fls hd hl
theorem mm_s_ldc {ix : Nat} (C : mm_fix p s m args meth c mid D cy ad A) (hdg : decode (mm_by mid) pc = .ok (.ldc ix, 2)) (hc : mm_chi (mm_cn (mm_tc mid)) (.ldc ix) pc mid a b cw z = true) (h : mm_ac call pc lo st h0 (.ldc ix) n a b z = some (pc', lo', st', h1))
    (k : mm_K p l e R s m args below meth c Q D cy ad A (mm_ml mid) pc' lo' st' h1) : mm_K p l e R s m args below meth c Q D cy ad A (mm_ml mid) pc lo st h0 := by
  obtain ⟨hx, hb, hr, hml, hown, hts, hlocks, hK, hZT⟩ := C
  intro H locs fls hd hl
  have hw : Cond.constant (mm_cn (mm_tc mid)) ix (Int32.ofInt z) ∈ lw_tbl := List.mem_of_getElem? (of_decide_eq_true hc)
  obtain ⟨rfl, rfl, rfl, rfl⟩ := mm_nxI h
  refine lv_ldc hx hb hown (hts _ hw rfl) hdg ?_
  exact k H locs fls hd hl
theorem mm_s_ldc_w {ix : Nat} (C : mm_fix p s m args meth c mid D cy ad A) (hdg : decode (mm_by mid) pc = .ok (.ldc_w ix, 3)) (hc : mm_chi (mm_cn (mm_tc mid)) (.ldc_w ix) pc mid a b cw z = true) (h : mm_ac call pc lo st h0 (.ldc_w ix) n a b z = some (pc', lo', st', h1))
    (k : mm_K p l e R s m args below meth c Q D cy ad A (mm_ml mid) pc' lo' st' h1) : mm_K p l e R s m args below meth c Q D cy ad A (mm_ml mid) pc lo st h0 := by
  obtain ⟨hx, hb, hr, hml, hown, hts, hlocks, hK, hZT⟩ := C
  intro H locs fls hd hl
  have hw : Cond.constant (mm_cn (mm_tc mid)) ix (Int32.ofInt z) ∈ lw_tbl := List.mem_of_getElem? (of_decide_eq_true hc)
  obtain ⟨rfl, rfl, rfl, rfl⟩ := mm_nxI h
  refine lv_ldcw hx hb hown (hts _ hw rfl) hdg ?_
  exact k H locs fls hd hl
theorem mm_s_ldc2_w {ix : Nat} (C : mm_fix p s m args meth c mid D cy ad A) (hdg : decode (mm_by mid) pc = .ok (.ldc2_w ix, 3)) (hc : mm_chi (mm_cn (mm_tc mid)) (.ldc2_w ix) pc mid a b cw z = true) (h : mm_ac call pc lo st h0 (.ldc2_w ix) n a b z = some (pc', lo', st', h1))
    (k : mm_K p l e R s m args below meth c Q D cy ad A (mm_ml mid) pc' lo' st' h1) : mm_K p l e R s m args below meth c Q D cy ad A (mm_ml mid) pc lo st h0 := by
  obtain ⟨hx, hb, hr, hml, hown, hts, hlocks, hK, hZT⟩ := C
  intro H locs fls hd hl
  have hw : Cond.constantLong (mm_cn (mm_tc mid)) ix (Int64.ofInt z) ∈ lw_tbl := List.mem_of_getElem? (of_decide_eq_true hc)
  obtain ⟨rfl, rfl, rfl, rfl⟩ := mm_nxI h
  refine lv_ldc2 hx hb hown (hts _ hw rfl) hdg ?_
  exact k H locs fls hd hl
theorem mm_s_iload_n {q : Fin 4} (C : mm_fix p s m args meth c mid D cy ad A) (hdg : decode (mm_by mid) pc = .ok (.iload_n q, 1)) (hc : mm_chi (mm_cn (mm_tc mid)) (.iload_n q) pc mid a b cw z = true) (h : mm_ac call pc lo st h0 (.iload_n q) n a b z = some (pc', lo', st', h1))
    (k : mm_K p l e R s m args below meth c Q D cy ad A (mm_ml mid) pc' lo' st' h1) : mm_K p l e R s m args below meth c Q D cy ad A (mm_ml mid) pc lo st h0 := by
  obtain ⟨hx, hb, hr, hml, hown, hts, hlocks, hK, hZT⟩ := C
  intro H locs fls hd hl
  obtain ⟨x, hq, h⟩ := mm_liI h
  obtain ⟨rfl, rfl, rfl, rfl⟩ := mm_nxI h
  refine lv_iload_n hx hb hdg rfl (hl.2.2 _ _ hq) ?_
  exact k H locs fls hd hl
theorem mm_s_iload {q : Nat} (C : mm_fix p s m args meth c mid D cy ad A) (hdg : decode (mm_by mid) pc = .ok (.iload q, 2)) (hc : mm_chi (mm_cn (mm_tc mid)) (.iload q) pc mid a b cw z = true) (h : mm_ac call pc lo st h0 (.iload q) n a b z = some (pc', lo', st', h1))
    (k : mm_K p l e R s m args below meth c Q D cy ad A (mm_ml mid) pc' lo' st' h1) : mm_K p l e R s m args below meth c Q D cy ad A (mm_ml mid) pc lo st h0 := by
  obtain ⟨hx, hb, hr, hml, hown, hts, hlocks, hK, hZT⟩ := C
  intro H locs fls hd hl
  obtain ⟨x, hq, h⟩ := mm_liI h
  obtain ⟨rfl, rfl, rfl, rfl⟩ := mm_nxI h
  refine lv_iload hx hb hdg (hl.2.2 _ _ hq) ?_
  exact k H locs fls hd hl
theorem mm_s_aload_n {q : Fin 4} (C : mm_fix p s m args meth c mid D cy ad A) (hdg : decode (mm_by mid) pc = .ok (.aload_n q, 1)) (hc : mm_chi (mm_cn (mm_tc mid)) (.aload_n q) pc mid a b cw z = true) (h : mm_ac call pc lo st h0 (.aload_n q) n a b z = some (pc', lo', st', h1))
    (k : mm_K p l e R s m args below meth c Q D cy ad A (mm_ml mid) pc' lo' st' h1) : mm_K p l e R s m args below meth c Q D cy ad A (mm_ml mid) pc lo st h0 := by
  obtain ⟨hx, hb, hr, hml, hown, hts, hlocks, hK, hZT⟩ := C
  intro H locs fls hd hl
  obtain ⟨x, hq, h⟩ := mm_lrI h
  obtain ⟨rfl, rfl, rfl, rfl⟩ := mm_nxI h
  refine lv_aload_n hx hb hdg rfl (hl.2.2 _ _ hq) ?_
  exact k H locs fls hd hl
theorem mm_s_aload {q : Nat} (C : mm_fix p s m args meth c mid D cy ad A) (hdg : decode (mm_by mid) pc = .ok (.aload q, 2)) (hc : mm_chi (mm_cn (mm_tc mid)) (.aload q) pc mid a b cw z = true) (h : mm_ac call pc lo st h0 (.aload q) n a b z = some (pc', lo', st', h1))
    (k : mm_K p l e R s m args below meth c Q D cy ad A (mm_ml mid) pc' lo' st' h1) : mm_K p l e R s m args below meth c Q D cy ad A (mm_ml mid) pc lo st h0 := by
  obtain ⟨hx, hb, hr, hml, hown, hts, hlocks, hK, hZT⟩ := C
  intro H locs fls hd hl
  obtain ⟨x, hq, h⟩ := mm_lrI h
  obtain ⟨rfl, rfl, rfl, rfl⟩ := mm_nxI h
  refine lv_aload hx hb hdg (hl.2.2 _ _ hq) ?_
  exact k H locs fls hd hl
theorem mm_s_lload_n {q : Fin 4} (C : mm_fix p s m args meth c mid D cy ad A) (hdg : decode (mm_by mid) pc = .ok (.lload_n q, 1)) (hc : mm_chi (mm_cn (mm_tc mid)) (.lload_n q) pc mid a b cw z = true) (h : mm_ac call pc lo st h0 (.lload_n q) n a b z = some (pc', lo', st', h1))
    (k : mm_K p l e R s m args below meth c Q D cy ad A (mm_ml mid) pc' lo' st' h1) : mm_K p l e R s m args below meth c Q D cy ad A (mm_ml mid) pc lo st h0 := by
  obtain ⟨hx, hb, hr, hml, hown, hts, hlocks, hK, hZT⟩ := C
  intro H locs fls hd hl
  obtain ⟨x, hq, h⟩ := mm_llI h
  obtain ⟨rfl, rfl, rfl, rfl⟩ := mm_nxI h
  refine lv_lload_n hx hb hdg rfl (hl.2.2 _ _ hq) ?_
  exact k H locs fls hd hl
theorem mm_s_lload {q : Nat} (C : mm_fix p s m args meth c mid D cy ad A) (hdg : decode (mm_by mid) pc = .ok (.lload q, 2)) (hc : mm_chi (mm_cn (mm_tc mid)) (.lload q) pc mid a b cw z = true) (h : mm_ac call pc lo st h0 (.lload q) n a b z = some (pc', lo', st', h1))
    (k : mm_K p l e R s m args below meth c Q D cy ad A (mm_ml mid) pc' lo' st' h1) : mm_K p l e R s m args below meth c Q D cy ad A (mm_ml mid) pc lo st h0 := by
  obtain ⟨hx, hb, hr, hml, hown, hts, hlocks, hK, hZT⟩ := C
  intro H locs fls hd hl
  obtain ⟨x, hq, h⟩ := mm_llI h
  obtain ⟨rfl, rfl, rfl, rfl⟩ := mm_nxI h
  refine lv_lload hx hb hdg (hl.2.2 _ _ hq) ?_
  exact k H locs fls hd hl
theorem mm_s_istore_n {q : Fin 4} (C : mm_fix p s m args meth c mid D cy ad A) (hdg : decode (mm_by mid) pc = .ok (.istore_n q, 1)) (hc : mm_chi (mm_cn (mm_tc mid)) (.istore_n q) pc mid a b cw z = true) (h : mm_ac call pc lo st h0 (.istore_n q) n a b z = some (pc', lo', st', h1))
    (k : mm_K p l e R s m args below meth c Q D cy ad A (mm_ml mid) pc' lo' st' h1) : mm_K p l e R s m args below meth c Q D cy ad A (mm_ml mid) pc lo st h0 := by
  obtain ⟨hx, hb, hr, hml, hown, hts, hlocks, hK, hZT⟩ := C
  intro H locs fls hd hl
  have hn := of_decide_eq_true hc
  obtain ⟨x, r, rfl, g9⟩ := mm_1I h
  have h := g9
  obtain ⟨rfl, rfl, rfl, rfl⟩ := mm_nxI h
  refine lv_istore_n hx hb hdg rfl (mm_lv_has hl) hn rfl (fun ls2 h2 => ?_)
  exact k H locs ls2 hd (mm_loc_set (v := .inl x) hl rfl hn h2)
theorem mm_s_istore {q : Nat} (C : mm_fix p s m args meth c mid D cy ad A) (hdg : decode (mm_by mid) pc = .ok (.istore q, 2)) (hc : mm_chi (mm_cn (mm_tc mid)) (.istore q) pc mid a b cw z = true) (h : mm_ac call pc lo st h0 (.istore q) n a b z = some (pc', lo', st', h1))
    (k : mm_K p l e R s m args below meth c Q D cy ad A (mm_ml mid) pc' lo' st' h1) : mm_K p l e R s m args below meth c Q D cy ad A (mm_ml mid) pc lo st h0 := by
  obtain ⟨hx, hb, hr, hml, hown, hts, hlocks, hK, hZT⟩ := C
  intro H locs fls hd hl
  have hn := of_decide_eq_true hc
  obtain ⟨x, r, rfl, g9⟩ := mm_1I h
  have h := g9
  obtain ⟨rfl, rfl, rfl, rfl⟩ := mm_nxI h
  refine lv_istore hx hb hdg (mm_lv_has hl) hn rfl (fun ls2 h2 => ?_)
  exact k H locs ls2 hd (mm_loc_set (v := .inl x) hl rfl hn h2)
theorem mm_s_astore_n {q : Fin 4} (C : mm_fix p s m args meth c mid D cy ad A) (hdg : decode (mm_by mid) pc = .ok (.astore_n q, 1)) (hc : mm_chi (mm_cn (mm_tc mid)) (.astore_n q) pc mid a b cw z = true) (h : mm_ac call pc lo st h0 (.astore_n q) n a b z = some (pc', lo', st', h1))
    (k : mm_K p l e R s m args below meth c Q D cy ad A (mm_ml mid) pc' lo' st' h1) : mm_K p l e R s m args below meth c Q D cy ad A (mm_ml mid) pc lo st h0 := by
  obtain ⟨hx, hb, hr, hml, hown, hts, hlocks, hK, hZT⟩ := C
  intro H locs fls hd hl
  have hn := of_decide_eq_true hc
  obtain ⟨x, r, rfl, g9⟩ := mm_r1I h
  have h := g9
  obtain ⟨rfl, rfl, rfl, rfl⟩ := mm_nxI h
  refine lv_astore_n hx hb hdg rfl (mm_lv_has hl) hn rfl (fun ls2 h2 => ?_)
  exact k H locs ls2 hd (mm_loc_set (v := .inr (.inl (some x))) hl rfl hn h2)
theorem mm_s_lstore_n {q : Fin 4} (C : mm_fix p s m args meth c mid D cy ad A) (hdg : decode (mm_by mid) pc = .ok (.lstore_n q, 1)) (hc : mm_chi (mm_cn (mm_tc mid)) (.lstore_n q) pc mid a b cw z = true) (h : mm_ac call pc lo st h0 (.lstore_n q) n a b z = some (pc', lo', st', h1))
    (k : mm_K p l e R s m args below meth c Q D cy ad A (mm_ml mid) pc' lo' st' h1) : mm_K p l e R s m args below meth c Q D cy ad A (mm_ml mid) pc lo st h0 := by
  obtain ⟨hx, hb, hr, hml, hown, hts, hlocks, hK, hZT⟩ := C
  intro H locs fls hd hl
  have hn := of_decide_eq_true hc
  obtain ⟨x, r, rfl, g9⟩ := mm_l1I h
  have h := g9
  obtain ⟨rfl, rfl, rfl, rfl⟩ := mm_nxI h
  refine lv_lstore_n hx hb hdg rfl (mm_lv_has hl) hn rfl (fun ls2 h2 => ?_)
  exact k H locs ls2 hd (mm_loc_set2 (v := .inr (.inr x)) hl h2)
theorem mm_s_lstore {q : Nat} (C : mm_fix p s m args meth c mid D cy ad A) (hdg : decode (mm_by mid) pc = .ok (.lstore q, 2)) (hc : mm_chi (mm_cn (mm_tc mid)) (.lstore q) pc mid a b cw z = true) (h : mm_ac call pc lo st h0 (.lstore q) n a b z = some (pc', lo', st', h1))
    (k : mm_K p l e R s m args below meth c Q D cy ad A (mm_ml mid) pc' lo' st' h1) : mm_K p l e R s m args below meth c Q D cy ad A (mm_ml mid) pc lo st h0 := by
  obtain ⟨hx, hb, hr, hml, hown, hts, hlocks, hK, hZT⟩ := C
  intro H locs fls hd hl
  have hn := of_decide_eq_true hc
  obtain ⟨x, r, rfl, g9⟩ := mm_l1I h
  have h := g9
  obtain ⟨rfl, rfl, rfl, rfl⟩ := mm_nxI h
  refine lv_lstore hx hb hdg (mm_lv_has hl) hn rfl (fun ls2 h2 => ?_)
  exact k H locs ls2 hd (mm_loc_set2 (v := .inr (.inr x)) hl h2)
theorem mm_s_iinc {q : Nat} {d : Int} (C : mm_fix p s m args meth c mid D cy ad A) (hdg : decode (mm_by mid) pc = .ok (.iinc q d, 3)) (hc : mm_chi (mm_cn (mm_tc mid)) (.iinc q d) pc mid a b cw z = true) (h : mm_ac call pc lo st h0 (.iinc q d) n a b z = some (pc', lo', st', h1))
    (k : mm_K p l e R s m args below meth c Q D cy ad A (mm_ml mid) pc' lo' st' h1) : mm_K p l e R s m args below meth c Q D cy ad A (mm_ml mid) pc lo st h0 := by
  obtain ⟨hx, hb, hr, hml, hown, hts, hlocks, hK, hZT⟩ := C
  intro H locs fls hd hl
  have hn := of_decide_eq_true hc
  obtain ⟨x, hq, h⟩ := mm_liI h
  obtain ⟨-, h⟩ := mm_bif h
  obtain ⟨rfl, rfl, rfl, rfl⟩ := mm_nxI h
  obtain ⟨i, hi⟩ := List.getElem?_of_mem (mm_lv_mem (ad := ad) (mm_loc_lt hl hq) hq)
  refine lv_iinc hx hb hdg (mm_lv_has hl) (k := i) hi rfl hn rfl (fun ls2 h2 => ?_)
  exact k H locs ls2 hd (mm_loc_set (v := .inl (x + Int32.ofInt d)) hl rfl hn h2)
theorem mm_s_iadd (C : mm_fix p s m args meth c mid D cy ad A) (hdg : decode (mm_by mid) pc = .ok (.iadd, 1)) (hc : mm_chi (mm_cn (mm_tc mid)) (.iadd) pc mid a b cw z = true) (h : mm_ac call pc lo st h0 (.iadd) n a b z = some (pc', lo', st', h1))
    (k : mm_K p l e R s m args below meth c Q D cy ad A (mm_ml mid) pc' lo' st' h1) : mm_K p l e R s m args below meth c Q D cy ad A (mm_ml mid) pc lo st h0 := by
  obtain ⟨hx, hb, hr, hml, hown, hts, hlocks, hK, hZT⟩ := C
  intro H locs fls hd hl
  obtain ⟨x, y, r, rfl, g9⟩ := mm_2I h
  have h := g9
  obtain ⟨rfl, rfl, rfl, rfl⟩ := mm_nxI h
  refine lv_iadd hx hb hdg ?_
  exact k H locs fls hd hl
theorem mm_s_isub (C : mm_fix p s m args meth c mid D cy ad A) (hdg : decode (mm_by mid) pc = .ok (.isub, 1)) (hc : mm_chi (mm_cn (mm_tc mid)) (.isub) pc mid a b cw z = true) (h : mm_ac call pc lo st h0 (.isub) n a b z = some (pc', lo', st', h1))
    (k : mm_K p l e R s m args below meth c Q D cy ad A (mm_ml mid) pc' lo' st' h1) : mm_K p l e R s m args below meth c Q D cy ad A (mm_ml mid) pc lo st h0 := by
  obtain ⟨hx, hb, hr, hml, hown, hts, hlocks, hK, hZT⟩ := C
  intro H locs fls hd hl
  obtain ⟨x, y, r, rfl, g9⟩ := mm_2I h
  have h := g9
  obtain ⟨rfl, rfl, rfl, rfl⟩ := mm_nxI h
  refine lv_isub hx hb hdg ?_
  exact k H locs fls hd hl
theorem mm_s_imul (C : mm_fix p s m args meth c mid D cy ad A) (hdg : decode (mm_by mid) pc = .ok (.imul, 1)) (hc : mm_chi (mm_cn (mm_tc mid)) (.imul) pc mid a b cw z = true) (h : mm_ac call pc lo st h0 (.imul) n a b z = some (pc', lo', st', h1))
    (k : mm_K p l e R s m args below meth c Q D cy ad A (mm_ml mid) pc' lo' st' h1) : mm_K p l e R s m args below meth c Q D cy ad A (mm_ml mid) pc lo st h0 := by
  obtain ⟨hx, hb, hr, hml, hown, hts, hlocks, hK, hZT⟩ := C
  intro H locs fls hd hl
  obtain ⟨x, y, r, rfl, g9⟩ := mm_2I h
  have h := g9
  obtain ⟨rfl, rfl, rfl, rfl⟩ := mm_nxI h
  refine lv_imul hx hb hdg ?_
  exact k H locs fls hd hl
theorem mm_s_iand (C : mm_fix p s m args meth c mid D cy ad A) (hdg : decode (mm_by mid) pc = .ok (.iand, 1)) (hc : mm_chi (mm_cn (mm_tc mid)) (.iand) pc mid a b cw z = true) (h : mm_ac call pc lo st h0 (.iand) n a b z = some (pc', lo', st', h1))
    (k : mm_K p l e R s m args below meth c Q D cy ad A (mm_ml mid) pc' lo' st' h1) : mm_K p l e R s m args below meth c Q D cy ad A (mm_ml mid) pc lo st h0 := by
  obtain ⟨hx, hb, hr, hml, hown, hts, hlocks, hK, hZT⟩ := C
  intro H locs fls hd hl
  obtain ⟨x, y, r, rfl, g9⟩ := mm_2I h
  have h := g9
  obtain ⟨rfl, rfl, rfl, rfl⟩ := mm_nxI h
  refine lv_iand hx hb hdg ?_
  exact k H locs fls hd hl
theorem mm_s_ior (C : mm_fix p s m args meth c mid D cy ad A) (hdg : decode (mm_by mid) pc = .ok (.ior, 1)) (hc : mm_chi (mm_cn (mm_tc mid)) (.ior) pc mid a b cw z = true) (h : mm_ac call pc lo st h0 (.ior) n a b z = some (pc', lo', st', h1))
    (k : mm_K p l e R s m args below meth c Q D cy ad A (mm_ml mid) pc' lo' st' h1) : mm_K p l e R s m args below meth c Q D cy ad A (mm_ml mid) pc lo st h0 := by
  obtain ⟨hx, hb, hr, hml, hown, hts, hlocks, hK, hZT⟩ := C
  intro H locs fls hd hl
  obtain ⟨x, y, r, rfl, g9⟩ := mm_2I h
  have h := g9
  obtain ⟨rfl, rfl, rfl, rfl⟩ := mm_nxI h
  refine lv_ior hx hb hdg ?_
  exact k H locs fls hd hl
theorem mm_s_ixor (C : mm_fix p s m args meth c mid D cy ad A) (hdg : decode (mm_by mid) pc = .ok (.ixor, 1)) (hc : mm_chi (mm_cn (mm_tc mid)) (.ixor) pc mid a b cw z = true) (h : mm_ac call pc lo st h0 (.ixor) n a b z = some (pc', lo', st', h1))
    (k : mm_K p l e R s m args below meth c Q D cy ad A (mm_ml mid) pc' lo' st' h1) : mm_K p l e R s m args below meth c Q D cy ad A (mm_ml mid) pc lo st h0 := by
  obtain ⟨hx, hb, hr, hml, hown, hts, hlocks, hK, hZT⟩ := C
  intro H locs fls hd hl
  obtain ⟨x, y, r, rfl, g9⟩ := mm_2I h
  have h := g9
  obtain ⟨rfl, rfl, rfl, rfl⟩ := mm_nxI h
  refine lv_ixor hx hb hdg ?_
  exact k H locs fls hd hl
theorem mm_s_ishl (C : mm_fix p s m args meth c mid D cy ad A) (hdg : decode (mm_by mid) pc = .ok (.ishl, 1)) (hc : mm_chi (mm_cn (mm_tc mid)) (.ishl) pc mid a b cw z = true) (h : mm_ac call pc lo st h0 (.ishl) n a b z = some (pc', lo', st', h1))
    (k : mm_K p l e R s m args below meth c Q D cy ad A (mm_ml mid) pc' lo' st' h1) : mm_K p l e R s m args below meth c Q D cy ad A (mm_ml mid) pc lo st h0 := by
  obtain ⟨hx, hb, hr, hml, hown, hts, hlocks, hK, hZT⟩ := C
  intro H locs fls hd hl
  obtain ⟨x, y, r, rfl, g9⟩ := mm_2I h
  have h := g9
  obtain ⟨rfl, rfl, rfl, rfl⟩ := mm_nxI h
  refine lv_ishl hx hb hdg ?_
  exact k H locs fls hd hl
theorem mm_s_ishr (C : mm_fix p s m args meth c mid D cy ad A) (hdg : decode (mm_by mid) pc = .ok (.ishr, 1)) (hc : mm_chi (mm_cn (mm_tc mid)) (.ishr) pc mid a b cw z = true) (h : mm_ac call pc lo st h0 (.ishr) n a b z = some (pc', lo', st', h1))
    (k : mm_K p l e R s m args below meth c Q D cy ad A (mm_ml mid) pc' lo' st' h1) : mm_K p l e R s m args below meth c Q D cy ad A (mm_ml mid) pc lo st h0 := by
  obtain ⟨hx, hb, hr, hml, hown, hts, hlocks, hK, hZT⟩ := C
  intro H locs fls hd hl
  obtain ⟨x, y, r, rfl, g9⟩ := mm_2I h
  have h := g9
  obtain ⟨rfl, rfl, rfl, rfl⟩ := mm_nxI h
  refine lv_ishr hx hb hdg ?_
  exact k H locs fls hd hl
theorem mm_s_iushr (C : mm_fix p s m args meth c mid D cy ad A) (hdg : decode (mm_by mid) pc = .ok (.iushr, 1)) (hc : mm_chi (mm_cn (mm_tc mid)) (.iushr) pc mid a b cw z = true) (h : mm_ac call pc lo st h0 (.iushr) n a b z = some (pc', lo', st', h1))
    (k : mm_K p l e R s m args below meth c Q D cy ad A (mm_ml mid) pc' lo' st' h1) : mm_K p l e R s m args below meth c Q D cy ad A (mm_ml mid) pc lo st h0 := by
  obtain ⟨hx, hb, hr, hml, hown, hts, hlocks, hK, hZT⟩ := C
  intro H locs fls hd hl
  obtain ⟨x, y, r, rfl, g9⟩ := mm_2I h
  have h := g9
  obtain ⟨rfl, rfl, rfl, rfl⟩ := mm_nxI h
  refine lv_iushr hx hb hdg rfl ?_
  exact k H locs fls hd hl
theorem mm_s_idiv (C : mm_fix p s m args meth c mid D cy ad A) (hdg : decode (mm_by mid) pc = .ok (.idiv, 1)) (hc : mm_chi (mm_cn (mm_tc mid)) (.idiv) pc mid a b cw z = true) (h : mm_ac call pc lo st h0 (.idiv) n a b z = some (pc', lo', st', h1))
    (k : mm_K p l e R s m args below meth c Q D cy ad A (mm_ml mid) pc' lo' st' h1) : mm_K p l e R s m args below meth c Q D cy ad A (mm_ml mid) pc lo st h0 := by
  obtain ⟨hx, hb, hr, hml, hown, hts, hlocks, hK, hZT⟩ := C
  intro H locs fls hd hl
  obtain ⟨x, y, r, rfl, g9⟩ := mm_2I h
  have h := g9
  obtain ⟨hy, h⟩ := mm_bin h
  obtain ⟨rfl, rfl, rfl, rfl⟩ := mm_nxI h
  refine lv_idiv hx hb hdg (of_decide_eq_false hy) ?_
  exact k H locs fls hd hl
theorem mm_s_irem (C : mm_fix p s m args meth c mid D cy ad A) (hdg : decode (mm_by mid) pc = .ok (.irem, 1)) (hc : mm_chi (mm_cn (mm_tc mid)) (.irem) pc mid a b cw z = true) (h : mm_ac call pc lo st h0 (.irem) n a b z = some (pc', lo', st', h1))
    (k : mm_K p l e R s m args below meth c Q D cy ad A (mm_ml mid) pc' lo' st' h1) : mm_K p l e R s m args below meth c Q D cy ad A (mm_ml mid) pc lo st h0 := by
  obtain ⟨hx, hb, hr, hml, hown, hts, hlocks, hK, hZT⟩ := C
  intro H locs fls hd hl
  obtain ⟨x, y, r, rfl, g9⟩ := mm_2I h
  have h := g9
  obtain ⟨hy, h⟩ := mm_bin h
  obtain ⟨rfl, rfl, rfl, rfl⟩ := mm_nxI h
  refine lv_irem hx hb hdg (of_decide_eq_false hy) ?_
  exact k H locs fls hd hl
theorem mm_s_ineg (C : mm_fix p s m args meth c mid D cy ad A) (hdg : decode (mm_by mid) pc = .ok (.ineg, 1)) (hc : mm_chi (mm_cn (mm_tc mid)) (.ineg) pc mid a b cw z = true) (h : mm_ac call pc lo st h0 (.ineg) n a b z = some (pc', lo', st', h1))
    (k : mm_K p l e R s m args below meth c Q D cy ad A (mm_ml mid) pc' lo' st' h1) : mm_K p l e R s m args below meth c Q D cy ad A (mm_ml mid) pc lo st h0 := by
  obtain ⟨hx, hb, hr, hml, hown, hts, hlocks, hK, hZT⟩ := C
  intro H locs fls hd hl
  obtain ⟨x, r, rfl, g9⟩ := mm_1I h
  have h := g9
  obtain ⟨rfl, rfl, rfl, rfl⟩ := mm_nxI h
  refine lv_ineg hx hb hdg ?_
  exact k H locs fls hd hl
theorem mm_s_i2l (C : mm_fix p s m args meth c mid D cy ad A) (hdg : decode (mm_by mid) pc = .ok (.i2l, 1)) (hc : mm_chi (mm_cn (mm_tc mid)) (.i2l) pc mid a b cw z = true) (h : mm_ac call pc lo st h0 (.i2l) n a b z = some (pc', lo', st', h1))
    (k : mm_K p l e R s m args below meth c Q D cy ad A (mm_ml mid) pc' lo' st' h1) : mm_K p l e R s m args below meth c Q D cy ad A (mm_ml mid) pc lo st h0 := by
  obtain ⟨hx, hb, hr, hml, hown, hts, hlocks, hK, hZT⟩ := C
  intro H locs fls hd hl
  obtain ⟨x, r, rfl, g9⟩ := mm_1I h
  have h := g9
  obtain ⟨rfl, rfl, rfl, rfl⟩ := mm_nxI h
  refine lv_i2l hx hb hdg rfl ?_
  exact k H locs fls hd hl
theorem mm_s_lsub (C : mm_fix p s m args meth c mid D cy ad A) (hdg : decode (mm_by mid) pc = .ok (.lsub, 1)) (hc : mm_chi (mm_cn (mm_tc mid)) (.lsub) pc mid a b cw z = true) (h : mm_ac call pc lo st h0 (.lsub) n a b z = some (pc', lo', st', h1))
    (k : mm_K p l e R s m args below meth c Q D cy ad A (mm_ml mid) pc' lo' st' h1) : mm_K p l e R s m args below meth c Q D cy ad A (mm_ml mid) pc lo st h0 := by
  obtain ⟨hx, hb, hr, hml, hown, hts, hlocks, hK, hZT⟩ := C
  intro H locs fls hd hl
  obtain ⟨x, y, r, rfl, g9⟩ := mm_l2I h
  have h := g9
  obtain ⟨rfl, rfl, rfl, rfl⟩ := mm_nxI h
  refine lv_lsub hx hb hdg ?_
  exact k H locs fls hd hl
theorem mm_s_lmul (C : mm_fix p s m args meth c mid D cy ad A) (hdg : decode (mm_by mid) pc = .ok (.lmul, 1)) (hc : mm_chi (mm_cn (mm_tc mid)) (.lmul) pc mid a b cw z = true) (h : mm_ac call pc lo st h0 (.lmul) n a b z = some (pc', lo', st', h1))
    (k : mm_K p l e R s m args below meth c Q D cy ad A (mm_ml mid) pc' lo' st' h1) : mm_K p l e R s m args below meth c Q D cy ad A (mm_ml mid) pc lo st h0 := by
  obtain ⟨hx, hb, hr, hml, hown, hts, hlocks, hK, hZT⟩ := C
  intro H locs fls hd hl
  obtain ⟨x, y, r, rfl, g9⟩ := mm_l2I h
  have h := g9
  obtain ⟨rfl, rfl, rfl, rfl⟩ := mm_nxI h
  refine lv_lmul hx hb hdg ?_
  exact k H locs fls hd hl
theorem mm_s_ldiv (C : mm_fix p s m args meth c mid D cy ad A) (hdg : decode (mm_by mid) pc = .ok (.ldiv, 1)) (hc : mm_chi (mm_cn (mm_tc mid)) (.ldiv) pc mid a b cw z = true) (h : mm_ac call pc lo st h0 (.ldiv) n a b z = some (pc', lo', st', h1))
    (k : mm_K p l e R s m args below meth c Q D cy ad A (mm_ml mid) pc' lo' st' h1) : mm_K p l e R s m args below meth c Q D cy ad A (mm_ml mid) pc lo st h0 := by
  obtain ⟨hx, hb, hr, hml, hown, hts, hlocks, hK, hZT⟩ := C
  intro H locs fls hd hl
  obtain ⟨x, y, r, rfl, g9⟩ := mm_l2I h
  have h := g9
  obtain ⟨hy, h⟩ := mm_bin h
  obtain ⟨rfl, rfl, rfl, rfl⟩ := mm_nxI h
  refine lv_ldiv hx hb hdg (of_decide_eq_false hy) ?_
  exact k H locs fls hd hl
theorem mm_s_lrem (C : mm_fix p s m args meth c mid D cy ad A) (hdg : decode (mm_by mid) pc = .ok (.lrem, 1)) (hc : mm_chi (mm_cn (mm_tc mid)) (.lrem) pc mid a b cw z = true) (h : mm_ac call pc lo st h0 (.lrem) n a b z = some (pc', lo', st', h1))
    (k : mm_K p l e R s m args below meth c Q D cy ad A (mm_ml mid) pc' lo' st' h1) : mm_K p l e R s m args below meth c Q D cy ad A (mm_ml mid) pc lo st h0 := by
  obtain ⟨hx, hb, hr, hml, hown, hts, hlocks, hK, hZT⟩ := C
  intro H locs fls hd hl
  obtain ⟨x, y, r, rfl, g9⟩ := mm_l2I h
  have h := g9
  obtain ⟨hy, h⟩ := mm_bin h
  obtain ⟨rfl, rfl, rfl, rfl⟩ := mm_nxI h
  refine lv_lrem hx hb hdg (of_decide_eq_false hy) ?_
  exact k H locs fls hd hl
theorem mm_s_lcmp (C : mm_fix p s m args meth c mid D cy ad A) (hdg : decode (mm_by mid) pc = .ok (.lcmp, 1)) (hc : mm_chi (mm_cn (mm_tc mid)) (.lcmp) pc mid a b cw z = true) (h : mm_ac call pc lo st h0 (.lcmp) n a b z = some (pc', lo', st', h1))
    (k : mm_K p l e R s m args below meth c Q D cy ad A (mm_ml mid) pc' lo' st' h1) : mm_K p l e R s m args below meth c Q D cy ad A (mm_ml mid) pc lo st h0 := by
  obtain ⟨hx, hb, hr, hml, hown, hts, hlocks, hK, hZT⟩ := C
  intro H locs fls hd hl
  obtain ⟨x, y, r, rfl, g9⟩ := mm_l2I h
  have h := g9
  obtain ⟨rfl, rfl, rfl, rfl⟩ := mm_nxI h
  refine W.lcmp hx hb hdg ?_
  exact k H locs fls hd hl
theorem mm_s_if_eq {off : Int} (C : mm_fix p s m args meth c mid D cy ad A) (hdg : decode (mm_by mid) pc = .ok (.ifCond .eq off, 3)) (hc : mm_chi (mm_cn (mm_tc mid)) (.ifCond .eq off) pc mid a b cw z = true) (h : mm_ac call pc lo st h0 (.ifCond .eq off) n a b z = some (pc', lo', st', h1))
    (k : mm_K p l e R s m args below meth c Q D cy ad A (mm_ml mid) pc' lo' st' h1) : mm_K p l e R s m args below meth c Q D cy ad A (mm_ml mid) pc lo st h0 := by
  obtain ⟨hx, hb, hr, hml, hown, hts, hlocks, hK, hZT⟩ := C
  intro H locs fls hd hl
  have ht := of_decide_eq_true hc
  obtain ⟨x, r, rfl, g9⟩ := mm_1I h
  have h := g9
  obtain ⟨rfl, rfl, rfl, rfl⟩ := mm_nxI h
  refine lv_if_eq (tgt := a) hx hb hdg ht (fun q => ?_) (fun q => ?_)
  · have hk := k H locs fls hd hl
    rw [show mm_c0 .eq x = true from decide_eq_true (by first | exact q | exact Int32.not_lt.mp q | exact Int32.not_le.mp q)] at hk
    exact hk
  · have hk := k H locs fls hd hl
    rw [show mm_c0 .eq x = false from decide_eq_false (by first | exact q | exact Int32.not_lt.mpr q | exact Int32.not_le.mpr q | exact fun w => w q)] at hk
    exact hk
theorem mm_s_icmp_eq {off : Int} (C : mm_fix p s m args meth c mid D cy ad A) (hdg : decode (mm_by mid) pc = .ok (.if_icmp .eq off, 3)) (hc : mm_chi (mm_cn (mm_tc mid)) (.if_icmp .eq off) pc mid a b cw z = true) (h : mm_ac call pc lo st h0 (.if_icmp .eq off) n a b z = some (pc', lo', st', h1))
    (k : mm_K p l e R s m args below meth c Q D cy ad A (mm_ml mid) pc' lo' st' h1) : mm_K p l e R s m args below meth c Q D cy ad A (mm_ml mid) pc lo st h0 := by
  obtain ⟨hx, hb, hr, hml, hown, hts, hlocks, hK, hZT⟩ := C
  intro H locs fls hd hl
  have ht := of_decide_eq_true hc
  obtain ⟨x, y, r, rfl, g9⟩ := mm_2I h
  have h := g9
  obtain ⟨rfl, rfl, rfl, rfl⟩ := mm_nxI h
  refine lv_icmp_eq (tgt := a) hx hb hdg ht (fun q => ?_) (fun q => ?_)
  · have hk := k H locs fls hd hl
    rw [show mm_c2 .eq x y = true from decide_eq_true (by first | exact q | exact Int32.not_lt.mp q | exact Int32.not_le.mp q)] at hk
    exact hk
  · have hk := k H locs fls hd hl
    rw [show mm_c2 .eq x y = false from decide_eq_false (by first | exact q | exact Int32.not_lt.mpr q | exact Int32.not_le.mpr q | exact fun w => w q)] at hk
    exact hk
theorem mm_s_if_ne {off : Int} (C : mm_fix p s m args meth c mid D cy ad A) (hdg : decode (mm_by mid) pc = .ok (.ifCond .ne off, 3)) (hc : mm_chi (mm_cn (mm_tc mid)) (.ifCond .ne off) pc mid a b cw z = true) (h : mm_ac call pc lo st h0 (.ifCond .ne off) n a b z = some (pc', lo', st', h1))
    (k : mm_K p l e R s m args below meth c Q D cy ad A (mm_ml mid) pc' lo' st' h1) : mm_K p l e R s m args below meth c Q D cy ad A (mm_ml mid) pc lo st h0 := by
  obtain ⟨hx, hb, hr, hml, hown, hts, hlocks, hK, hZT⟩ := C
  intro H locs fls hd hl
  have ht := of_decide_eq_true hc
  obtain ⟨x, r, rfl, g9⟩ := mm_1I h
  have h := g9
  obtain ⟨rfl, rfl, rfl, rfl⟩ := mm_nxI h
  refine lv_if_ne (tgt := a) hx hb hdg ht (fun q => ?_) (fun q => ?_)
  · have hk := k H locs fls hd hl
    rw [show mm_c0 .ne x = true from decide_eq_true (by first | exact q | exact Int32.not_lt.mp q | exact Int32.not_le.mp q)] at hk
    exact hk
  · have hk := k H locs fls hd hl
    rw [show mm_c0 .ne x = false from decide_eq_false (by first | exact q | exact Int32.not_lt.mpr q | exact Int32.not_le.mpr q | exact fun w => w q)] at hk
    exact hk
theorem mm_s_icmp_ne {off : Int} (C : mm_fix p s m args meth c mid D cy ad A) (hdg : decode (mm_by mid) pc = .ok (.if_icmp .ne off, 3)) (hc : mm_chi (mm_cn (mm_tc mid)) (.if_icmp .ne off) pc mid a b cw z = true) (h : mm_ac call pc lo st h0 (.if_icmp .ne off) n a b z = some (pc', lo', st', h1))
    (k : mm_K p l e R s m args below meth c Q D cy ad A (mm_ml mid) pc' lo' st' h1) : mm_K p l e R s m args below meth c Q D cy ad A (mm_ml mid) pc lo st h0 := by
  obtain ⟨hx, hb, hr, hml, hown, hts, hlocks, hK, hZT⟩ := C
  intro H locs fls hd hl
  have ht := of_decide_eq_true hc
  obtain ⟨x, y, r, rfl, g9⟩ := mm_2I h
  have h := g9
  obtain ⟨rfl, rfl, rfl, rfl⟩ := mm_nxI h
  refine lv_icmp_ne (tgt := a) hx hb hdg ht (fun q => ?_) (fun q => ?_)
  · have hk := k H locs fls hd hl
    rw [show mm_c2 .ne x y = true from decide_eq_true (by first | exact q | exact Int32.not_lt.mp q | exact Int32.not_le.mp q)] at hk
    exact hk
  · have hk := k H locs fls hd hl
    rw [show mm_c2 .ne x y = false from decide_eq_false (by first | exact q | exact Int32.not_lt.mpr q | exact Int32.not_le.mpr q | exact fun w => w q)] at hk
    exact hk
theorem mm_s_if_lt {off : Int} (C : mm_fix p s m args meth c mid D cy ad A) (hdg : decode (mm_by mid) pc = .ok (.ifCond .lt off, 3)) (hc : mm_chi (mm_cn (mm_tc mid)) (.ifCond .lt off) pc mid a b cw z = true) (h : mm_ac call pc lo st h0 (.ifCond .lt off) n a b z = some (pc', lo', st', h1))
    (k : mm_K p l e R s m args below meth c Q D cy ad A (mm_ml mid) pc' lo' st' h1) : mm_K p l e R s m args below meth c Q D cy ad A (mm_ml mid) pc lo st h0 := by
  obtain ⟨hx, hb, hr, hml, hown, hts, hlocks, hK, hZT⟩ := C
  intro H locs fls hd hl
  have ht := of_decide_eq_true hc
  obtain ⟨x, r, rfl, g9⟩ := mm_1I h
  have h := g9
  obtain ⟨rfl, rfl, rfl, rfl⟩ := mm_nxI h
  refine lv_if_lt (tgt := a) hx hb hdg ht (fun q => ?_) (fun q => ?_)
  · have hk := k H locs fls hd hl
    rw [show mm_c0 .lt x = true from decide_eq_true (by first | exact q | exact Int32.not_lt.mp q | exact Int32.not_le.mp q)] at hk
    exact hk
  · have hk := k H locs fls hd hl
    rw [show mm_c0 .lt x = false from decide_eq_false (by first | exact q | exact Int32.not_lt.mpr q | exact Int32.not_le.mpr q | exact fun w => w q)] at hk
    exact hk
theorem mm_s_icmp_lt {off : Int} (C : mm_fix p s m args meth c mid D cy ad A) (hdg : decode (mm_by mid) pc = .ok (.if_icmp .lt off, 3)) (hc : mm_chi (mm_cn (mm_tc mid)) (.if_icmp .lt off) pc mid a b cw z = true) (h : mm_ac call pc lo st h0 (.if_icmp .lt off) n a b z = some (pc', lo', st', h1))
    (k : mm_K p l e R s m args below meth c Q D cy ad A (mm_ml mid) pc' lo' st' h1) : mm_K p l e R s m args below meth c Q D cy ad A (mm_ml mid) pc lo st h0 := by
  obtain ⟨hx, hb, hr, hml, hown, hts, hlocks, hK, hZT⟩ := C
  intro H locs fls hd hl
  have ht := of_decide_eq_true hc
  obtain ⟨x, y, r, rfl, g9⟩ := mm_2I h
  have h := g9
  obtain ⟨rfl, rfl, rfl, rfl⟩ := mm_nxI h
  refine lv_icmp_lt (tgt := a) hx hb hdg ht (fun q => ?_) (fun q => ?_)
  · have hk := k H locs fls hd hl
    rw [show mm_c2 .lt x y = true from decide_eq_true (by first | exact q | exact Int32.not_lt.mp q | exact Int32.not_le.mp q)] at hk
    exact hk
  · have hk := k H locs fls hd hl
    rw [show mm_c2 .lt x y = false from decide_eq_false (by first | exact q | exact Int32.not_lt.mpr q | exact Int32.not_le.mpr q | exact fun w => w q)] at hk
    exact hk
theorem mm_s_if_ge {off : Int} (C : mm_fix p s m args meth c mid D cy ad A) (hdg : decode (mm_by mid) pc = .ok (.ifCond .ge off, 3)) (hc : mm_chi (mm_cn (mm_tc mid)) (.ifCond .ge off) pc mid a b cw z = true) (h : mm_ac call pc lo st h0 (.ifCond .ge off) n a b z = some (pc', lo', st', h1))
    (k : mm_K p l e R s m args below meth c Q D cy ad A (mm_ml mid) pc' lo' st' h1) : mm_K p l e R s m args below meth c Q D cy ad A (mm_ml mid) pc lo st h0 := by
  obtain ⟨hx, hb, hr, hml, hown, hts, hlocks, hK, hZT⟩ := C
  intro H locs fls hd hl
  have ht := of_decide_eq_true hc
  obtain ⟨x, r, rfl, g9⟩ := mm_1I h
  have h := g9
  obtain ⟨rfl, rfl, rfl, rfl⟩ := mm_nxI h
  refine lv_if_ge (tgt := a) hx hb hdg ht (fun q => ?_) (fun q => ?_)
  · have hk := k H locs fls hd hl
    rw [show mm_c0 .ge x = true from decide_eq_true (by first | exact q | exact Int32.not_lt.mp q | exact Int32.not_le.mp q)] at hk
    exact hk
  · have hk := k H locs fls hd hl
    rw [show mm_c0 .ge x = false from decide_eq_false (by first | exact q | exact Int32.not_lt.mpr q | exact Int32.not_le.mpr q | exact fun w => w q)] at hk
    exact hk
theorem mm_s_icmp_ge {off : Int} (C : mm_fix p s m args meth c mid D cy ad A) (hdg : decode (mm_by mid) pc = .ok (.if_icmp .ge off, 3)) (hc : mm_chi (mm_cn (mm_tc mid)) (.if_icmp .ge off) pc mid a b cw z = true) (h : mm_ac call pc lo st h0 (.if_icmp .ge off) n a b z = some (pc', lo', st', h1))
    (k : mm_K p l e R s m args below meth c Q D cy ad A (mm_ml mid) pc' lo' st' h1) : mm_K p l e R s m args below meth c Q D cy ad A (mm_ml mid) pc lo st h0 := by
  obtain ⟨hx, hb, hr, hml, hown, hts, hlocks, hK, hZT⟩ := C
  intro H locs fls hd hl
  have ht := of_decide_eq_true hc
  obtain ⟨x, y, r, rfl, g9⟩ := mm_2I h
  have h := g9
  obtain ⟨rfl, rfl, rfl, rfl⟩ := mm_nxI h
  refine lv_icmp_ge (tgt := a) hx hb hdg ht (fun q => ?_) (fun q => ?_)
  · have hk := k H locs fls hd hl
    rw [show mm_c2 .ge x y = true from decide_eq_true (by first | exact q | exact Int32.not_lt.mp q | exact Int32.not_le.mp q)] at hk
    exact hk
  · have hk := k H locs fls hd hl
    rw [show mm_c2 .ge x y = false from decide_eq_false (by first | exact q | exact Int32.not_lt.mpr q | exact Int32.not_le.mpr q | exact fun w => w q)] at hk
    exact hk
theorem mm_s_if_gt {off : Int} (C : mm_fix p s m args meth c mid D cy ad A) (hdg : decode (mm_by mid) pc = .ok (.ifCond .gt off, 3)) (hc : mm_chi (mm_cn (mm_tc mid)) (.ifCond .gt off) pc mid a b cw z = true) (h : mm_ac call pc lo st h0 (.ifCond .gt off) n a b z = some (pc', lo', st', h1))
    (k : mm_K p l e R s m args below meth c Q D cy ad A (mm_ml mid) pc' lo' st' h1) : mm_K p l e R s m args below meth c Q D cy ad A (mm_ml mid) pc lo st h0 := by
  obtain ⟨hx, hb, hr, hml, hown, hts, hlocks, hK, hZT⟩ := C
  intro H locs fls hd hl
  have ht := of_decide_eq_true hc
  obtain ⟨x, r, rfl, g9⟩ := mm_1I h
  have h := g9
  obtain ⟨rfl, rfl, rfl, rfl⟩ := mm_nxI h
  refine lv_if_gt (tgt := a) hx hb hdg ht (fun q => ?_) (fun q => ?_)
  · have hk := k H locs fls hd hl
    rw [show mm_c0 .gt x = true from decide_eq_true (by first | exact q | exact Int32.not_lt.mp q | exact Int32.not_le.mp q)] at hk
    exact hk
  · have hk := k H locs fls hd hl
    rw [show mm_c0 .gt x = false from decide_eq_false (by first | exact q | exact Int32.not_lt.mpr q | exact Int32.not_le.mpr q | exact fun w => w q)] at hk
    exact hk
theorem mm_s_icmp_gt {off : Int} (C : mm_fix p s m args meth c mid D cy ad A) (hdg : decode (mm_by mid) pc = .ok (.if_icmp .gt off, 3)) (hc : mm_chi (mm_cn (mm_tc mid)) (.if_icmp .gt off) pc mid a b cw z = true) (h : mm_ac call pc lo st h0 (.if_icmp .gt off) n a b z = some (pc', lo', st', h1))
    (k : mm_K p l e R s m args below meth c Q D cy ad A (mm_ml mid) pc' lo' st' h1) : mm_K p l e R s m args below meth c Q D cy ad A (mm_ml mid) pc lo st h0 := by
  obtain ⟨hx, hb, hr, hml, hown, hts, hlocks, hK, hZT⟩ := C
  intro H locs fls hd hl
  have ht := of_decide_eq_true hc
  obtain ⟨x, y, r, rfl, g9⟩ := mm_2I h
  have h := g9
  obtain ⟨rfl, rfl, rfl, rfl⟩ := mm_nxI h
  refine lv_icmp_gt (tgt := a) hx hb hdg ht (fun q => ?_) (fun q => ?_)
  · have hk := k H locs fls hd hl
    rw [show mm_c2 .gt x y = true from decide_eq_true (by first | exact q | exact Int32.not_lt.mp q | exact Int32.not_le.mp q)] at hk
    exact hk
  · have hk := k H locs fls hd hl
    rw [show mm_c2 .gt x y = false from decide_eq_false (by first | exact q | exact Int32.not_lt.mpr q | exact Int32.not_le.mpr q | exact fun w => w q)] at hk
    exact hk
theorem mm_s_if_le {off : Int} (C : mm_fix p s m args meth c mid D cy ad A) (hdg : decode (mm_by mid) pc = .ok (.ifCond .le off, 3)) (hc : mm_chi (mm_cn (mm_tc mid)) (.ifCond .le off) pc mid a b cw z = true) (h : mm_ac call pc lo st h0 (.ifCond .le off) n a b z = some (pc', lo', st', h1))
    (k : mm_K p l e R s m args below meth c Q D cy ad A (mm_ml mid) pc' lo' st' h1) : mm_K p l e R s m args below meth c Q D cy ad A (mm_ml mid) pc lo st h0 := by
  obtain ⟨hx, hb, hr, hml, hown, hts, hlocks, hK, hZT⟩ := C
  intro H locs fls hd hl
  have ht := of_decide_eq_true hc
  obtain ⟨x, r, rfl, g9⟩ := mm_1I h
  have h := g9
  obtain ⟨rfl, rfl, rfl, rfl⟩ := mm_nxI h
  refine lv_if_le (tgt := a) hx hb hdg ht (fun q => ?_) (fun q => ?_)
  · have hk := k H locs fls hd hl
    rw [show mm_c0 .le x = true from decide_eq_true (by first | exact q | exact Int32.not_lt.mp q | exact Int32.not_le.mp q)] at hk
    exact hk
  · have hk := k H locs fls hd hl
    rw [show mm_c0 .le x = false from decide_eq_false (by first | exact q | exact Int32.not_lt.mpr q | exact Int32.not_le.mpr q | exact fun w => w q)] at hk
    exact hk
theorem mm_s_icmp_le {off : Int} (C : mm_fix p s m args meth c mid D cy ad A) (hdg : decode (mm_by mid) pc = .ok (.if_icmp .le off, 3)) (hc : mm_chi (mm_cn (mm_tc mid)) (.if_icmp .le off) pc mid a b cw z = true) (h : mm_ac call pc lo st h0 (.if_icmp .le off) n a b z = some (pc', lo', st', h1))
    (k : mm_K p l e R s m args below meth c Q D cy ad A (mm_ml mid) pc' lo' st' h1) : mm_K p l e R s m args below meth c Q D cy ad A (mm_ml mid) pc lo st h0 := by
  obtain ⟨hx, hb, hr, hml, hown, hts, hlocks, hK, hZT⟩ := C
  intro H locs fls hd hl
  have ht := of_decide_eq_true hc
  obtain ⟨x, y, r, rfl, g9⟩ := mm_2I h
  have h := g9
  obtain ⟨rfl, rfl, rfl, rfl⟩ := mm_nxI h
  refine lv_icmp_le (tgt := a) hx hb hdg ht (fun q => ?_) (fun q => ?_)
  · have hk := k H locs fls hd hl
    rw [show mm_c2 .le x y = true from decide_eq_true (by first | exact q | exact Int32.not_lt.mp q | exact Int32.not_le.mp q)] at hk
    exact hk
  · have hk := k H locs fls hd hl
    rw [show mm_c2 .le x y = false from decide_eq_false (by first | exact q | exact Int32.not_lt.mpr q | exact Int32.not_le.mpr q | exact fun w => w q)] at hk
    exact hk
theorem mm_s_goto {off : Int} (C : mm_fix p s m args meth c mid D cy ad A) (hdg : decode (mm_by mid) pc = .ok (.goto off, 3)) (hc : mm_chi (mm_cn (mm_tc mid)) (.goto off) pc mid a b cw z = true) (h : mm_ac call pc lo st h0 (.goto off) n a b z = some (pc', lo', st', h1))
    (k : mm_K p l e R s m args below meth c Q D cy ad A (mm_ml mid) pc' lo' st' h1) : mm_K p l e R s m args below meth c Q D cy ad A (mm_ml mid) pc lo st h0 := by
  obtain ⟨hx, hb, hr, hml, hown, hts, hlocks, hK, hZT⟩ := C
  intro H locs fls hd hl
  have ht := of_decide_eq_true hc
  obtain ⟨rfl, rfl, rfl, rfl⟩ := mm_nxI h
  refine lv_goto (tgt := a) hx hb hdg ht ?_
  exact k H locs fls hd hl
theorem mm_s_tableswitch {df q1 q2 : Int} {offs : Array Int} {w : Nat} (C : mm_fix p s m args meth c mid D cy ad A) (hdg : decode (mm_by mid) pc = .ok (.tableswitch df q1 q2 offs, w)) (hc : mm_chi (mm_cn (mm_tc mid)) (.tableswitch df q1 q2 offs) pc mid a b cw z = true) (h : mm_ac call pc lo st h0 (.tableswitch df q1 q2 offs) n a b z = some (pc', lo', st', h1))
    (k : mm_K p l e R s m args below meth c Q D cy ad A (mm_ml mid) pc' lo' st' h1) : mm_K p l e R s m args below meth c Q D cy ad A (mm_ml mid) pc lo st h0 := by
  obtain ⟨hx, hb, hr, hml, hown, hts, hlocks, hK, hZT⟩ := C
  intro H locs fls hd hl
  obtain ⟨x, r, rfl, g9⟩ := mm_1I h
  have h := g9
  unfold mm_tsw at h
  by_cases q : x.toInt < q1 ∨ q2 < x.toInt
  · rw [show decide (x.toInt < q1 ∨ q2 < x.toInt) = true from decide_eq_true q] at h
    obtain ⟨t, ht, h⟩ := mm_tnI (z := (pc : Int) + df) h
    obtain ⟨rfl, rfl, rfl, rfl⟩ := mm_nxI h
    exact lv_tableOut hx hb hdg q ht (k H locs fls hd hl)
  · rw [show decide (x.toInt < q1 ∨ q2 < x.toInt) = false from decide_eq_false q] at h
    cases ho : offs[(x.toInt - q1).toNat]? with
    | none => simp only [cond_false] at h; rw [ho] at h; cases h
    | some off =>
      simp only [cond_false] at h
      rw [ho] at h
      obtain ⟨t, ht, h⟩ := mm_tnI (z := (pc : Int) + off) h
      obtain ⟨rfl, rfl, rfl, rfl⟩ := mm_nxI h
      exact lv_tableIn hx hb hdg (fun w => q (Or.inl w)) (fun w => q (Or.inr w)) ho ht (k H locs fls hd hl)
theorem mm_s_lookupswitch {df : Int} {ps : Array (Int × Int)} {w : Nat} (C : mm_fix p s m args meth c mid D cy ad A) (hdg : decode (mm_by mid) pc = .ok (.lookupswitch df ps, w)) (hc : mm_chi (mm_cn (mm_tc mid)) (.lookupswitch df ps) pc mid a b cw z = true) (h : mm_ac call pc lo st h0 (.lookupswitch df ps) n a b z = some (pc', lo', st', h1))
    (k : mm_K p l e R s m args below meth c Q D cy ad A (mm_ml mid) pc' lo' st' h1) : mm_K p l e R s m args below meth c Q D cy ad A (mm_ml mid) pc lo st h0 := by
  obtain ⟨hx, hb, hr, hml, hown, hts, hlocks, hK, hZT⟩ := C
  intro H locs fls hd hl
  obtain ⟨x, r, rfl, g9⟩ := mm_1I h
  have h := g9
  obtain ⟨t, ht, h⟩ := mm_tnI h
  obtain ⟨rfl, rfl, rfl, rfl⟩ := mm_nxI h
  exact lv_lookup hx hb hdg hc rfl ht (k H locs fls hd hl)
theorem mm_s_dup (C : mm_fix p s m args meth c mid D cy ad A) (hdg : decode (mm_by mid) pc = .ok (.dup, 1)) (hc : mm_chi (mm_cn (mm_tc mid)) (.dup) pc mid a b cw z = true) (h : mm_ac call pc lo st h0 (.dup) n a b z = some (pc', lo', st', h1))
    (k : mm_K p l e R s m args below meth c Q D cy ad A (mm_ml mid) pc' lo' st' h1) : mm_K p l e R s m args below meth c Q D cy ad A (mm_ml mid) pc lo st h0 := by
  obtain ⟨hx, hb, hr, hml, hown, hts, hlocks, hK, hZT⟩ := C
  intro H locs fls hd hl
  cases st with
  | nil => cases h
  | cons v r =>
    obtain ⟨hv, h⟩ := mm_bif h
    obtain ⟨rfl, rfl, rfl, rfl⟩ := mm_nxI h
    exact lv_dup hx hb hdg (by rw [mm_catV]; exact Nat.eq_of_beq_eq_true hv) (k H locs fls hd hl)
theorem mm_s_pop (C : mm_fix p s m args meth c mid D cy ad A) (hdg : decode (mm_by mid) pc = .ok (.pop, 1)) (hc : mm_chi (mm_cn (mm_tc mid)) (.pop) pc mid a b cw z = true) (h : mm_ac call pc lo st h0 (.pop) n a b z = some (pc', lo', st', h1))
    (k : mm_K p l e R s m args below meth c Q D cy ad A (mm_ml mid) pc' lo' st' h1) : mm_K p l e R s m args below meth c Q D cy ad A (mm_ml mid) pc lo st h0 := by
  obtain ⟨hx, hb, hr, hml, hown, hts, hlocks, hK, hZT⟩ := C
  intro H locs fls hd hl
  cases st with
  | nil => cases h
  | cons v r =>
    obtain ⟨hv, h⟩ := mm_bif h
    obtain ⟨rfl, rfl, rfl, rfl⟩ := mm_nxI h
    exact lv_pop hx hb hdg (by rw [mm_catV]; exact Nat.eq_of_beq_eq_true hv) (k H locs fls hd hl)
theorem mm_s_dup2 (C : mm_fix p s m args meth c mid D cy ad A) (hdg : decode (mm_by mid) pc = .ok (.dup2, 1)) (hc : mm_chi (mm_cn (mm_tc mid)) (.dup2) pc mid a b cw z = true) (h : mm_ac call pc lo st h0 (.dup2) n a b z = some (pc', lo', st', h1))
    (k : mm_K p l e R s m args below meth c Q D cy ad A (mm_ml mid) pc' lo' st' h1) : mm_K p l e R s m args below meth c Q D cy ad A (mm_ml mid) pc lo st h0 := by
  obtain ⟨hx, hb, hr, hml, hown, hts, hlocks, hK, hZT⟩ := C
  intro H locs fls hd hl
  cases st with
  | nil => cases h
  | cons v r =>
    cases r with
    | nil => cases h
    | cons w r =>
      obtain ⟨hv, h⟩ := mm_bif h
      obtain ⟨rfl, rfl, rfl, rfl⟩ := mm_nxI h
      rw [Bool.and_eq_true] at hv
      exact lv_dup2_11 hx hb hdg (by rw [mm_catV]; exact Nat.eq_of_beq_eq_true hv.1) (by rw [mm_catV]; exact Nat.eq_of_beq_eq_true hv.2) (k H locs fls hd hl)
end MMS
