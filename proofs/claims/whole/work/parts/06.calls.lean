-- calls, answers, methods
theorem mm_gi {ws : List Jvm.Cond} (h : ∀ w ∈ ws, w ∈ lw_tbl ∧ goodWord w = true) : GoodIn lw_g ws := fun w hw => ⟨List.mem_filter.mpr (h w hw), good_of_word (h w hw).2⟩
theorem mm_gm {y : MethodName} {b : ByteArray} {n : Nat} {r : Option FieldType} (m1 : Cond.code y b n r ∈ lw_tbl) : ∀ w ∈ (Cond.code y b n r :: lw_g), w ∈ lw_tbl ∧ goodWord w = true := fun w hw => (List.mem_cons.mp hw).elim (fun q => by rw [q]; exact ⟨m1, rfl⟩) (fun q => List.mem_filter.mp q)
theorem mm_Nm {s U : State} (hW : s.WarmedH U.vm) (h : mm_Nst s) : mm_Nst U := by
  intro w hw hn
  have h1 := h w hw hn
  cases w
  case fieldLinkNest => exact va_Nw.warmF hW h1
  case methodLinkNest => exact va_Nw.warmM hW h1
  all_goals (cases hn)
theorem mm_Ns {s U : State} (hW : s.vm = U.vm) (h : mm_Nst s) : mm_Nst U := by
  intro w hw hn
  have h1 := h w hw hn
  cases w
  case fieldLinkNest => exact va_Nw.same rfl hW h1
  case methodLinkNest => exact va_Nw.same rfl hW h1
  all_goals (cases hn)
def mm_wd (mid : Nat) : List Jvm.Cond := .code (mm_ty mid) (mm_by mid) (mm_ml mid) (mm_rt mid) :: lw_g
def mm_rm (d : Nat) : Room := { frames := d + 1, cells := 0, slots := 0, locals := 100 * (d + 1) }
def mm_Q (D : va_G) (cy : Nat → ClassId) (ad : Nat → Nat) (A : Nat → Prop) (r : Option MV) (h' : MH) : Array Value → State → Outcome → State → Prop := fun _ st oc t => (oc = .returned (r.map (mm_v ad)) ∧ mm_Wd D cy ad A h' t t.heap) ∧ va_F A st t
def mm_Pc (D : va_G) (cy : Nat → ClassId) (ad : Nat → Nat) (A : Nat → Prop) (as : List MV) (h : MH) : Array Value → State → Prop := va_Pc (as.map (mm_v ad)) (fun U => mm_Wd D cy ad A h U U.heap)
def mm_CO (l : Launch) (call : MCl) (d : Nat) (D : va_G) (cy : Nat → ClassId) (ad : Nat → Nat) (A : Nat → Prop) : Prop := ∀ tg as h r h', call tg as h = some (r, h') → Met l (mm_ty tg) (mm_wd tg) (mm_rm d) (mm_Pc D cy ad A as h) (mm_Q D cy ad A r h') 0 0 A
theorem mm_chmI {mid : Nat} (h : mm_chm mid = true) : (Cond.code (mm_ty mid) (mm_by mid) (mm_ml mid) (mm_rt mid) ∈ lw_tbl) ∧ plainName (mm_ty mid).cls = true ∧ (mm_ty mid).cls = mm_cn (mm_tc mid) ∧ (mm_ty mid).name ≠ "<init>" ∧ (mm_ty mid).cls ≠ "java/lang/invoke/MethodHandle" ∧ (mm_ty mid).cls ≠ "java/lang/invoke/VarHandle" ∧ (Cond.initialized (mm_ty mid).cls ∈ lw_tbl) ∧ ∀ pc, pc < (mm_Kt mid).1 → mm_che mid pc ((mm_Kt mid).2 pc) = true := by
  unfold mm_chm at h
  rw [Bool.and_eq_true, Bool.and_eq_true, Bool.and_eq_true, Bool.and_eq_true, Bool.and_eq_true, Bool.and_eq_true, Bool.and_eq_true] at h
  obtain ⟨⟨⟨⟨⟨⟨⟨h1, h2⟩, h3⟩, h4⟩, h5⟩, h6⟩, h7⟩, h8⟩ := h
  refine ⟨?_, h2, of_decide_eq_true h3, of_decide_eq_true h4, of_decide_eq_true h5, of_decide_eq_true h6, List.mem_of_getElem? (of_decide_eq_true h7), fun pc hp => List.all_eq_true.mp h8 pc (List.mem_range.mpr hp)⟩
  unfold mm_cw at h1
  split at h1
  · rename_i y b m r heq
    rw [Bool.and_eq_true, Bool.and_eq_true] at h1
    obtain ⟨⟨e1, e2⟩, e3⟩ := h1
    have hm := List.mem_of_getElem? heq
    rw [of_decide_eq_true e1, of_decide_eq_true e2, of_decide_eq_true e3] at hm
    have hb : mm_by mid = b := by unfold mm_by; rw [heq]; rfl
    rw [hb]
    exact hm
  · cases h1
theorem mm_codeI {mid pc : Nat} {e : MEnt} (h : mm_code mid pc = some e) : mid < mm_NM ∧ mm_che mid pc (some e) = true := by
  unfold mm_code at h
  obtain ⟨h1, h⟩ := mm_bin h
  obtain ⟨h2, h⟩ := mm_bin h
  have hm : mid < mm_NM := Nat.not_le.mp (fun w => by rw [show Nat.ble mm_NM mid = true from Nat.ble_eq_true_of_le w] at h1; cases h1)
  have hp : pc < (mm_Kt mid).1 := Nat.not_le.mp (fun w => by rw [Nat.ble_eq_true_of_le w] at h2; cases h2)
  have := (mm_chmI (mm_ckA mid hm)).2.2.2.2.2.2.2 pc hp
  rw [h] at this
  exact ⟨hm, this⟩
theorem mm_split : ∀ {st : List MV} {n : Nat} {v : MV}, st[n]? = some v → st = st.take n ++ v :: st.drop (n + 1) ∧ (st.take (n + 1)).reverse = v :: (st.take n).reverse ∧ (st.take n).length = n
  | [], n, v, h => by simp at h
  | x :: st, 0, v, h => by
    simp at h
    subst h
    simp
  | x :: st, n + 1, v, h => by
    rw [List.getElem?_cons_succ] at h
    obtain ⟨h1, h2, h3⟩ := mm_split h
    refine ⟨?_, ?_, ?_⟩
    · show x :: st = x :: (st.take n ++ v :: st.drop (n + 1))
      rw [← h1]
    · show (x :: st.take (n + 1)).reverse = v :: (x :: st.take n).reverse
      rw [List.reverse_cons, h2, List.reverse_cons]
      rfl
    · show (x :: st.take n).length = n + 1
      rw [List.length_cons, h3]
theorem mm_sumI (ad : Nat → Nat) : ∀ l : List MV, ((l.map (mm_v ad)).map fun v => v.category).sum = mm_sum l
  | [] => rfl
  | v :: l => by
    rw [List.map_cons, List.map_cons, List.sum_cons, mm_sumI ad l, mm_catV]
    rfl
theorem mm_lgI (ad : Nat → Nat) : ∀ l : List MV, (lg_sl (l.map (mm_v ad))).length = mm_sum l
  | [] => rfl
  | .inl x :: l => by
    have e : lg_sl ((.inl x :: l).map (mm_v ad)) = [Slot.val (.int x)] ++ lg_sl (l.map (mm_v ad)) := rfl
    rw [e, List.length_append, mm_lgI ad l]
    rfl
  | .inr (.inl none) :: l => by
    have e : lg_sl ((.inr (.inl none) :: l).map (mm_v ad)) = [Slot.val .null] ++ lg_sl (l.map (mm_v ad)) := rfl
    rw [e, List.length_append, mm_lgI ad l]
    rfl
  | .inr (.inl (some r)) :: l => by
    have e : lg_sl ((.inr (.inl (some r)) :: l).map (mm_v ad)) = [Slot.val (.ref (ad r))] ++ lg_sl (l.map (mm_v ad)) := rfl
    rw [e, List.length_append, mm_lgI ad l]
    rfl
  | .inr (.inr x) :: l => by
    have e : lg_sl ((.inr (.inr x) :: l).map (mm_v ad)) = [Slot.val (.long x), Slot.second] ++ lg_sl (l.map (mm_v ad)) := rfl
    rw [e, List.length_append, mm_lgI ad l]
    rfl
theorem mm_argI (ad : Nat → Nat) : ∀ (l : List MV) (i j : Nat) (v : MV), mm_lf (mm_args i l) j = some v → (j, mm_v ad v) ∈ lv_args i (l.map (mm_v ad))
  | [], i, j, v, h => by cases h
  | .inl x :: l, i, j, v, h => by
    unfold mm_args mm_lf at h
    by_cases e : j = i
    · subst e
      rw [Nat.beq_refl] at h
      cases h
      exact List.mem_cons_self
    · rw [show Nat.beq j i = false from mm_bne e] at h
      exact List.mem_cons_of_mem _ (mm_argI ad l (i + 1) j v h)
  | .inr (.inl r) :: l, i, j, v, h => by
    unfold mm_args mm_lf at h
    by_cases e : j = i
    · subst e
      rw [Nat.beq_refl] at h
      cases h
      exact List.mem_cons_self
    · rw [show Nat.beq j i = false from mm_bne e] at h
      have h2 := mm_argI ad l (i + 1) j v h
      cases r <;> exact List.mem_cons_of_mem _ h2
  | .inr (.inr x) :: l, i, j, v, h => by
    unfold mm_args mm_lf at h
    by_cases e : j = i
    · subst e
      rw [Nat.beq_refl] at h
      cases h
      exact List.mem_cons_self
    · rw [show Nat.beq j i = false from mm_bne e] at h
      exact List.mem_cons_of_mem _ (mm_argI ad l (i + 2) j v h)
theorem mm_Stm {ad : Nat → Nat} {A : Nat → Prop} {u U : State} {H : Heap} (hvm : u.vm.Alike U.vm) (h : mm_St ad A u H) : mm_St ad A U H := ⟨va_Z.moved hvm h.1, va_T.moved hvm h.2⟩
theorem mm_Stk {ad : Nat → Nat} {A : Nat → Prop} {U : State} {H H1 : Heap} (h : mm_St ad A U H) (hq : ∀ a : Nat, a < H.size → ¬ A a → H1[a]? = H[a]?) : mm_St ad A U H1 := ⟨h.1.kept hq, h.2.kept hq⟩
theorem mm_blind {D : va_G} {cy : Nat → ClassId} {ad : Nat → Nat} {A : Nat → Prop} {as : List MV} {h : MH} : FrameBlind (mm_Pc D cy ad A as h) := fun a U g mk q => by
  obtain ⟨q1, hP, hK, hD, hZ, hN⟩ := q
  exact ⟨q1, hP, va_K.moved (u := U) (U := U.calling g mk a) (Vm.Alike.refl U.vm) hK, hD, mm_Stm (u := U) (U := U.calling g mk a) (Vm.Alike.refl U.vm) hZ, mm_Ns (s := U) (U := U.calling g mk a) rfl hN⟩
set_option maxRecDepth 100000 in
theorem mm_mlB : ∀ mid, mid < mm_NM → mm_ml mid ≤ 60 := by decide +kernel
theorem mm_vfI : ∀ {l : List (Nat × Nat × Nat × Nat)} {c g m s : Nat}, mm_vf l c g = some (m, s) → (c, g, m, s) ∈ l
  | [], c, g, m, s, h => by cases h
  | (ci, f, m0, s0) :: l, c, g, m, s, h => by
    unfold mm_vf at h
    cases hb : (Nat.beq ci c && Nat.beq f g) with
    | true =>
      rw [hb] at h
      cases h
      rw [Bool.and_eq_true] at hb
      rw [Nat.eq_of_beq_eq_true hb.1, Nat.eq_of_beq_eq_true hb.2]
      exact List.mem_cons_self
    | false =>
      rw [hb] at h
      exact List.mem_cons_of_mem _ (mm_vfI h)
def mm_vtc (q : Nat × Nat × Nat × Nat) : Bool := decide (q.2.2.1 < mm_NM) && decide (q.2.1 < 2) && mm_lw q.2.2.2 (.selects (mm_cn q.1) (mm_x q.2.1) (mm_ty q.2.2.1)) && mm_lw (mm_i2 q.2.2.1) (.instanceMethod (mm_ty q.2.2.1))
set_option maxRecDepth 100000 in
theorem mm_vtC : mm_vt.all mm_vtc = true := by decide +kernel
set_option maxRecDepth 100000 in
theorem mm_xC : ∀ f, f < 2 → (Cond.sameMethod (mm_x f).cls "BothCorners$Way" (mm_x f).name (mm_x f).desc ∈ lw_tbl ∧ Cond.instanceMethod (mm_x f) ∈ lw_tbl ∧ (mm_x f).cls = "BothCorners$Way") := by decide +kernel
theorem mm_xK (f : Nat) : ∃ b0 m0 r0, Cond.code (mm_x f) b0 m0 r0 ∈ lw_tbl := by
  by_cases hf : f = 0
  · subst hf
    have h := (mm_chmI (mm_ckA 59 (by decide))).1
    have e : mm_ty 59 = mm_x 0 := by decide +kernel
    rw [e] at h
    exact ⟨_, _, _, h⟩
  · have h := (mm_chmI (mm_ckA 60 (by decide))).1
    have e : mm_ty 60 = mm_x 1 := by decide +kernel
    have e2 : mm_x f = mm_x 1 := by
      unfold mm_x
      rw [show Nat.beq f 0 = false from mm_bne hf]
      rfl
    rw [e, ← e2] at h
    exact ⟨_, _, _, h⟩
theorem mm_npI {y : MethodName} {z : Int} (h : mm_np y z = true) : (parseMethodDescriptor y.desc).map (fun d => d.parameters.length) = some z.toNat := of_decide_eq_true h
theorem mm_lwI {i : Nat} {w : Jvm.Cond} (h : mm_lw i w = true) : w ∈ lw_tbl := List.mem_of_getElem? (of_decide_eq_true h)
set_option maxRecDepth 100000 in
theorem mm_cpW : Cond.native arraycopyName ∈ lw_tbl ∧ Cond.static arraycopyName ∈ lw_tbl ∧ Cond.initialized "java/lang/System" ∈ lw_tbl ∧ Cond.initialized "java/lang/Math" ∈ lw_tbl ∧ Cond.static Lib.Math.max.name ∈ lw_tbl ∧ Cond.static Lib.Math.min.name ∈ lw_tbl ∧ Cond.static Lib.Math.abs.name ∈ lw_tbl := by decide +kernel
set_option maxRecDepth 100000 in
theorem mm_cpM : Cond.code Lib.Math.max.name Lib.Math.max.code 2 (some .int) ∈ lw_tbl ∧ Cond.code Lib.Math.min.name Lib.Math.min.code 2 (some .int) ∈ lw_tbl ∧ Cond.code Lib.Math.abs.name Lib.Math.abs.code 1 (some .int) ∈ lw_tbl :=
  ⟨List.mem_of_getElem? (i := 536) (by decide +kernel), List.mem_of_getElem? (i := 623) (by decide +kernel), List.mem_of_getElem? (i := 550) (by decide +kernel)⟩
section MMC
variable {p : Program} {l : Launch} {e : Env} {R : Room} {s : State} {m : MethodId} {args : Array Value} {below : List Frame} {meth : Method} {c : Code} {Q : State → Prop}
variable {mid : Nat} {D : va_G} {cy : Nat → ClassId} {ad : Nat → Nat} {A : Nat → Prop} {call : MCl} {pc pc' n a b cw d : Nat} {z : Int} {lo lo' : MLo} {st st' : List MV} {h0 h1 : MH}
theorem mm_call {H : Heap} {locs : List Loc} {st0 rest : List Value} {r : Option MV} {h' : MH} {aa : Array Value} {ls : Array Slot} (hr : va_Run p l e R s m args below meth c H locs 0 0 0 0 (F0 m pc ls st0) rest (mm_Q D cy ad A r h' aa) A) (hS : va_S A s.heap H locs)
    (kk : ∀ (H1 : Heap) (locs1 : List Loc), mm_dyn D cy ad A s H1 locs1 h' → W p l e R s m args below meth c H1 locs1 0 0 Q (F0 m (pc + 3) ls ((r.map (mm_v ad)).toList ++ rest))) : W p l e R s m args below meth c H locs 0 0 Q (F0 m pc ls st0) := by
  intro T hT X
  obtain ⟨v, st₀, t, T', L, h0, X', hL, e1, e2, ⟨⟨hv, hP, hK, hD, hZ⟩, hz, hk⟩, st⟩ := hr T hT X
  cases hv
  rw [h0] at hz hk
  obtain ⟨t2, a1, b1⟩ := kk T'.heap (locs ++ L) ⟨by rw [e1]; exact hP, hD, Nat.le_trans hS.1 (by rw [e1]; exact hz), fun q h1 h2 => by rw [e1, hk q (Nat.lt_of_lt_of_le h1 hS.1) h2]; exact hS.2.1 q h1 h2, fun q hq => by
      rcases List.mem_append.mp hq with h | h
      · exact hS.2.2 q h
      · exact hL q h⟩ T' rfl X'
  exact ⟨t2, st t2 a1, b1⟩
theorem mm_ivI {tg w : Nat} (hh : mm_iv call pc lo st h0 tg w = some (pc', lo', st', h1)) : ∃ r, w ≤ st.length ∧ mm_sum (st.drop w) ≤ 8 ∧ call tg (st.take w).reverse h0 = some (r, h1) ∧ pc' = pc + 3 ∧ lo' = lo ∧ st' = r.toList ++ st.drop w := by
  unfold mm_iv at hh
  obtain ⟨h2, hh⟩ := mm_bif hh
  rw [Bool.and_eq_true] at h2
  split at hh
  · rename_i r h' hcl
    obtain ⟨rfl, rfl, rfl, rfl⟩ := mm_nxI hh
    exact ⟨r, Nat.le_of_ble_eq_true h2.1, Nat.le_of_ble_eq_true h2.2, hcl, rfl, rfl, rfl⟩
  · cases hh
theorem mm_nst (hts : mm_hts args s) : mm_Nst s := by
  intro w hw hn
  have h1 := hts w hw (by rw [hn, Bool.or_true])
  cases w
  case fieldLinkNest => exact va_Nw.of rfl h1
  case methodLinkNest => exact va_Nw.of rfl h1
  all_goals (cases hn)
theorem mm_preU {H : Heap} {locs : List Loc} {as : List MV} (hts : mm_hts args s) (hK : va_K D vwCl (mm_tys cy) s) (hZT : mm_St ad A s s.heap) (hd : mm_dyn D cy ad A s H locs h0) : ∀ U : State, U.heap = H → s.WarmedH U.vm → mm_Pc D cy ad A as h0 (as.map (mm_v ad)).toArray U := fun U hU hW =>
  ⟨rfl, by show va_P D vwCl _ U.heap; rw [hU]; exact hd.1, va_K.moved hW.alike hK, hd.2.1, by
    show mm_St ad A U U.heap
    rw [hU]
    exact mm_Stm hW.alike (mm_Stk hZT hd.2.2.2.1), mm_Nm hW (mm_nst hts)⟩
theorem mm_rmF (b : Nat) (hb : b < mm_NM) (hR : R = mm_rm (d + 1)) : (mm_rm d).frames + 1 ≤ R.frames ∧ 8 + (mm_ml b + 11) + (mm_rm d).locals ≤ R.locals := by
  subst hR
  have := mm_mlB b hb
  constructor
  · show d + 1 + 1 ≤ d + 1 + 1
    omega
  · show 8 + (mm_ml b + 11) + 100 * (d + 1) ≤ 100 * (d + 1 + 1)
    omega
theorem mm_room {g : List MV} {ls : Array Slot} (h : mm_sum g ≤ 8) {st0 : List Value} : 2 * (F0 m pc ls st0).monitorRoom + ((g.map (mm_v ad)).map fun v => v.category).sum ≤ 8 := lv_room (by rw [mm_sumI]; exact h)
theorem mm_rl (r : Option MV) (g : List MV) : (r.toList ++ g).map (mm_v ad) = (r.map (mm_v ad)).toList ++ g.map (mm_v ad) := by cases r <;> simp
theorem mm_cpI {q : MSt} (h : mm_cp lo pc st h0 = some q) : ∃ nn dp kd sp ks r ns nd, st = .inl nn :: .inl dp :: .inr (.inl (some kd)) :: .inl sp :: .inr (.inl (some ks)) :: r ∧ mm_sh ks = .inl ns ∧ mm_sh kd = .inl nd ∧ (Nat.blt ks mm_NP && Nat.blt kd mm_NP && decide (¬ sp < 0 ∧ ¬ dp < 0 ∧ ¬ nn < 0 ∧ sp.toNatClampNeg + nn.toNatClampNeg ≤ ns ∧ dp.toNatClampNeg + nn.toNatClampNeg ≤ nd) && Nat.ble (mm_sum r) 8) = true ∧ mm_nx (pc + 3) lo r (mm_hcpy h0.1 ks kd sp.toNatClampNeg dp.toNatClampNeg nn.toNatClampNeg, h0.2) = some q := by
  unfold mm_cp at h
  split at h
  · split at h
    · obtain ⟨h2, g⟩ := mm_bif h
      exact ⟨_, _, _, _, _, _, _, _, rfl, by assumption, by assumption, h2, g⟩
    · cases h
  · cases h
theorem mm_s_static {ix : Nat} (hmid : mid < mm_NM) (hR : R = mm_rm (d + 1)) (hco : mm_CO l call d D cy ad A) (C : mm_fix p s m args meth c mid D cy ad A) (hdg : decode (mm_by mid) pc = .ok (.invokestatic ix, 3)) (hc : mm_chi (mm_cn (mm_tc mid)) (.invokestatic ix) pc mid a b cw z = true) (h : mm_ac call pc lo st h0 (.invokestatic ix) n a b z = some (pc', lo', st', h1))
    (k : mm_K p l e R s m args below meth c Q D cy ad A (mm_ml mid) pc' lo' st' h1) : mm_K p l e R s m args below meth c Q D cy ad A (mm_ml mid) pc lo st h0 := by
  obtain ⟨hx, hb, hr, hml, hown, hts, hlocks, hK, hZT⟩ := C
  intro H locs fls hd hl
  obtain ⟨w1, w2, w3, w4, w5, w6, w7⟩ := mm_cpW
  obtain ⟨v1, v2, v3⟩ := mm_cpM
  have hR1 : 1 ≤ R.frames := by rw [hR]; show 1 ≤ d + 1 + 1; omega
  have hmlS : c.maxLocals = fls.size := by rw [hml, hl.1]
  by_cases a8 : a = 8
  · subst a8
    have hw := mm_lwI (w := .methodLink (mm_cn (mm_tc mid)) ix arraycopyName) hc
    have h : mm_cp lo pc st h0 = some (pc', lo', st', h1) := h
    obtain ⟨nn, dp, kd, sp, ks, r, ns, nd, rfl, hs1, hs2, h2, g9⟩ := mm_cpI h
    obtain ⟨rfl, rfl, rfl, rfl⟩ := mm_nxI g9
    rw [Bool.and_eq_true, Bool.and_eq_true, Bool.and_eq_true] at h2
    obtain ⟨⟨⟨g1, g2⟩, g3⟩, g4⟩ := h2
    obtain ⟨q1, q2, q3, q4, q5⟩ := of_decide_eq_true g3
    have k1 : ks < mm_NP := Nat.le_of_ble_eq_true g1
    have k2 : kd < mm_NP := Nat.le_of_ble_eq_true g2
    have g5 := Nat.le_of_ble_eq_true g4
    refine va_copyi (ty := .int) hx hb hmlS hown (hts _ hw rfl) (hts _ w1 rfl) (hts _ w2 rfl) (hts _ w3 rfl) hK hd.1 hd.2.1 hd.2.2 ks kd 0 0 (mm_entI k1 hs1) (mm_entI k2 hs2) rfl rfl rfl q1 q2 q3 q4 q5 (fun _ _ => rfl) hR1 ?_ hdg (fun H1 locs1 g1 g2 g3 => ?_)
    · rw [mm_sumI, hR]
      have e : nativeFrameWords "java/lang/System" "arraycopy" 5 ≤ 60 := by decide +kernel
      show mm_sum r + (nativeFrameWords "java/lang/System" "arraycopy" 5 + 11) ≤ 100 * (d + 1 + 1)
      omega
    · rw [mm_ws_cpy k2 hs2] at g1 g2
      exact k H1 locs1 fls ⟨g1, g2, g3⟩ hl
  by_cases a5 : a = 5
  · subst a5
    have hw := mm_lwI (w := .methodLink (mm_cn (mm_tc mid)) ix Lib.Math.max.name) hc
    obtain ⟨x, y, r, rfl, g9⟩ := mm_2I (st := st) h
    have h := g9
    obtain ⟨h2, h⟩ := mm_bif h
    obtain ⟨rfl, rfl, rfl, rfl⟩ := mm_nxI h
    have g5 := Nat.le_of_ble_eq_true h2
    exact va_mmax hx hb hmlS hown (hts _ hw rfl) (hts _ w5 rfl) (hts _ w4 rfl) (hts _ v1 rfl) hR1 (by rw [mm_sumI, hR]; show mm_sum r + 13 ≤ 100 * (d + 1 + 1); omega) (Nat.zero_le _) (Nat.zero_le _) hdg (k H locs fls hd hl)
  by_cases a6 : a = 6
  · subst a6
    have hw := mm_lwI (w := .methodLink (mm_cn (mm_tc mid)) ix Lib.Math.min.name) hc
    obtain ⟨x, y, r, rfl, g9⟩ := mm_2I (st := st) h
    have h := g9
    obtain ⟨h2, h⟩ := mm_bif h
    obtain ⟨rfl, rfl, rfl, rfl⟩ := mm_nxI h
    have g5 := Nat.le_of_ble_eq_true h2
    exact va_mmin hx hb hmlS hown (hts _ hw rfl) (hts _ w6 rfl) (hts _ w4 rfl) (hts _ v2 rfl) hR1 (by rw [mm_sumI, hR]; show mm_sum r + 13 ≤ 100 * (d + 1 + 1); omega) (Nat.zero_le _) (Nat.zero_le _) hdg (k H locs fls hd hl)
  by_cases a7 : a = 7
  · subst a7
    have hw := mm_lwI (w := .methodLink (mm_cn (mm_tc mid)) ix Lib.Math.abs.name) hc
    obtain ⟨x, r, rfl, g9⟩ := mm_1I (st := st) h
    have h := g9
    obtain ⟨h2, h⟩ := mm_bif h
    obtain ⟨rfl, rfl, rfl, rfl⟩ := mm_nxI h
    have g5 := Nat.le_of_ble_eq_true h2
    exact va_mabs hx hb hmlS hown (hts _ hw rfl) (hts _ w7 rfl) (hts _ w4 rfl) (hts _ v3 rfl) hR1 (by rw [mm_sumI, hR]; show mm_sum r + 13 ≤ 100 * (d + 1 + 1); omega) (Nat.zero_le _) (Nat.zero_le _) hdg (k H locs fls hd hl)
  have e8 : Nat.beq a 8 = false := mm_bne a8
  have e5 : Nat.beq a 5 = false := mm_bne a5
  have e6 : Nat.beq a 6 = false := mm_bne a6
  have e7 : Nat.beq a 7 = false := mm_bne a7
  have h : mm_iv call pc lo st h0 b z.toNat = some (pc', lo', st', h1) := by
    unfold mm_ac at h
    dsimp only at h
    rw [e8, e5, e6, e7] at h
    exact h
  unfold mm_chi at hc
  dsimp only at hc
  rw [e8, e5, e6, e7] at hc
  dsimp only [cond_false] at hc
  rw [Bool.and_eq_true, Bool.and_eq_true, Bool.and_eq_true] at hc
  obtain ⟨⟨⟨c1, c2⟩, c3⟩, c4⟩ := hc
  obtain ⟨r, hlen, hsum, hcl, rfl, rfl, rfl⟩ := mm_ivI h
  have hbm : b < mm_NM := of_decide_eq_true c1
  obtain ⟨m1, m2, m3, m4, m5, m6, m7, -⟩ := mm_chmI (mm_ckA b hbm)
  have hM := hco b _ h0 r h1 hcl
  have hstk : (st.map (mm_v ad)) = (((st.take z.toNat).reverse).map (mm_v ad)).reverse ++ (st.drop z.toNat).map (mm_v ad) := by
    rw [← List.map_reverse, List.reverse_reverse, ← List.map_append, List.take_append_drop]
  have hnl : (((st.take z.toNat).reverse).map (mm_v ad)).length = z.toNat := by
    rw [List.length_map, List.length_reverse, List.length_take]
    omega
  have kk : ∀ (H1 : Heap) (locs1 : List Loc), mm_dyn D cy ad A s H1 locs1 h1 → W p l e R s m args below meth c H1 locs1 0 0 Q (F0 m (pc + 3) fls ((r.map (mm_v ad)).toList ++ (st.drop z.toNat).map (mm_v ad))) := fun H1 locs1 hd1 => by
    have := k H1 locs1 fls hd1 hl
    rw [mm_rl] at this
    exact this
  by_cases a2 : a = 2
  · rw [show Nat.beq a 2 = true from by rw [a2]; rfl] at c4
    have hw := mm_lwI c4
    exact mm_call (va_runSN ⟨hx, hb, hml, hown, mm_hg hts⟩ hM ⟨va_cnB z.toNat (mm_hg hts) (mm_gi (mm_gm m1)) rfl rfl rfl (va_tabs rfl rfl (hts _ hw rfl)) (hts _ m7 rfl) ⟨m5, m6, mm_npI c3⟩ (mm_rmF b hbm hR), hts _ (mm_lwI c2) rfl, trivial⟩ ⟨mm_blind, mm_preU hts hK hZT hd⟩ rfl hnl hl.1 hstk (mm_room hsum) hdg ⟨Nat.zero_le _, Nat.zero_le _⟩) hd.2.2 kk
  · rw [show Nat.beq a 2 = false from mm_bne a2] at c4
    dsimp only [cond_false] at c4
    rw [Bool.and_eq_true] at c4
    have hw := mm_lwI c4.2
    exact mm_call (va_runS ⟨hx, hb, hml, hown, mm_hg hts⟩ hM (va_cwS z.toNat (mm_hg hts) (mm_gi (fun w hw2 => by
      unfold va_wsS at hw2
      rcases List.mem_append.mp hw2 with q | q
      · simp only [List.mem_cons, List.not_mem_nil, or_false] at q
        rcases q with rfl | rfl | rfl
        · exact ⟨hw, rfl⟩
        · exact ⟨mm_lwI c2, rfl⟩
        · exact ⟨m7, rfl⟩
      · exact mm_gm m1 _ q)) rfl rfl rfl ⟨m5, m6, mm_npI c3⟩ (mm_rmF b hbm hR)) ⟨mm_blind, mm_preU hts hK hZT hd⟩ rfl hnl hl.1 hstk (mm_room hsum) hdg ⟨Nat.zero_le _, Nat.zero_le _⟩) hd.2.2 kk
theorem mm_rcI {nn : Nat} {f : Nat → MAc} {q : MSt} (h : mm_rc st nn f = some q) : ∃ kr, st[nn]? = some (.inr (.inl (some kr))) ∧ kr < mm_NP ∧ f kr = some q := by
  unfold mm_rc at h
  split at h
  · rename_i kr hq
    obtain ⟨h1, h⟩ := mm_bin h
    exact ⟨kr, hq, Nat.not_le.mp (fun w => by rw [show Nat.ble mm_NP kr = true from Nat.ble_eq_true_of_le w] at h1; cases h1), h⟩
  · cases h
theorem mm_clsI {kr ci : Nat} (hk : kr < mm_NP) (h : mm_cls kr = some ci) : ∃ (T : u_T) (N : Nat) (fs : (Nat → ClassId) → (Nat → Nat) → MH → List Value), vwCl[ci]? = some (mm_cn ci, T, N) ∧ ∀ (cy : Nat → ClassId) (ad : Nat → Nat) (h0 : MH), (mm_ws cy ad h0)[kr]? = some (ad kr, .inr (ci, fs cy ad h0)) := by
  unfold mm_cls at h
  split at h
  · rename_i c2 fl hs
    cases h
    obtain ⟨C, T, N, hcl, -, -⟩ := mm_shO hk hs
    have := mm_clNm hcl
    subst this
    exact ⟨T, N, fun cy ad h0 => mm_fs ad h0 kr 0 fl, hcl, fun cy ad h0 => mm_entO hk hs⟩
  · cases h
theorem mm_s_virtual {ix : Nat} (hmid : mid < mm_NM) (hR : R = mm_rm (d + 1)) (hco : mm_CO l call d D cy ad A) (C : mm_fix p s m args meth c mid D cy ad A) (hdg : decode (mm_by mid) pc = .ok (.invokevirtual ix, 3)) (hc : mm_chi (mm_cn (mm_tc mid)) (.invokevirtual ix) pc mid a b cw z = true) (h : mm_ac call pc lo st h0 (.invokevirtual ix) n a b z = some (pc', lo', st', h1))
    (k : mm_K p l e R s m args below meth c Q D cy ad A (mm_ml mid) pc' lo' st' h1) : mm_K p l e R s m args below meth c Q D cy ad A (mm_ml mid) pc lo st h0 := by
  obtain ⟨hx, hb, hr, hml, hown, hts, hlocks, hK, hZT⟩ := C
  intro H locs fls hd hl
  obtain ⟨kr, hst, hkr, h⟩ := mm_rcI (st := st) (nn := z.toNat) h
  obtain ⟨s1, s2, s3⟩ := mm_split hst
  have hnl : (((st.take z.toNat).reverse).map (mm_v ad)).length = z.toNat := by
    rw [List.length_map, List.length_reverse, s3]
  have hstk : (st.map (mm_v ad)) = (((st.take z.toNat).reverse).map (mm_v ad)).reverse ++ .ref (ad kr) :: (st.drop (z.toNat + 1)).map (mm_v ad) := by
    rw [← List.map_reverse, List.reverse_reverse]
    have e1 : st.map (mm_v ad) = (st.take z.toNat ++ .inr (.inl (some kr)) :: st.drop (z.toNat + 1)).map (mm_v ad) := congrArg _ s1
    rw [e1, List.map_append]
    rfl
  unfold mm_chi at hc
  dsimp only at hc
  by_cases a4 : a = 4
  · rw [show Nat.beq a 4 = true from by rw [a4]; rfl] at hc h
    dsimp only [cond_true] at hc h
    rw [Bool.and_eq_true] at hc
    split at h
    · rename_i ci hci
      split at h
      · rename_i tg sl hvf
        obtain ⟨r, hlen, hsum, hcl, rfl, rfl, rfl⟩ := mm_ivI h
        rw [s2] at hcl
        have hv := List.all_eq_true.mp mm_vtC _ (mm_vfI hvf)
        unfold mm_vtc at hv
        dsimp only at hv
        rw [Bool.and_eq_true, Bool.and_eq_true, Bool.and_eq_true] at hv
        obtain ⟨⟨⟨v1, v2⟩, v3⟩, v4⟩ := hv
        have hbm : tg < mm_NM := of_decide_eq_true v1
        obtain ⟨x1, x2, x3⟩ := mm_xC b (of_decide_eq_true v2)
        obtain ⟨b0, m0, r0, hxk⟩ := mm_xK b
        obtain ⟨m1, m2, m3, m4, m5, m6, m7, -⟩ := mm_chmI (mm_ckA tg hbm)
        have hM := hco tg _ h0 r h1 hcl
        obtain ⟨T, N, fs, hcls, hent⟩ := mm_clsI hkr hci
        have kk : ∀ (H1 : Heap) (locs1 : List Loc), mm_dyn D cy ad A s H1 locs1 h1 → W p l e R s m args below meth c H1 locs1 0 0 Q (F0 m (pc + 3) fls ((r.map (mm_v ad)).toList ++ (st.drop (z.toNat + 1)).map (mm_v ad))) := fun H1 locs1 hd1 => by
          have := k H1 locs1 fls hd1 hl
          rw [mm_rl] at this
          exact this
        have hxe : mm_x b = ⟨"BothCorners$Way", (mm_x b).name, (mm_x b).desc⟩ := by
          conv => lhs; rw [show mm_x b = ⟨(mm_x b).cls, (mm_x b).name, (mm_x b).desc⟩ from rfl, x3]
        exact mm_call (va_runU ⟨hx, hb, hml, hown, mm_hg hts⟩ hM (va_cwO (C := mm_cn ci) (owner := "BothCorners$Way") (x := mm_x b) z.toNat (mm_hg hts) (mm_gi (fun w hw2 => by
          unfold va_wsO at hw2
          rcases List.mem_append.mp hw2 with q | q
          · simp only [List.mem_cons, List.not_mem_nil, or_false] at q
            rcases q with rfl | rfl | rfl | rfl | rfl | rfl
            · exact ⟨mm_lwI hc.1, rfl⟩
            · exact ⟨x1, rfl⟩
            · rw [← hxe]; exact ⟨x2, rfl⟩
            · exact ⟨mm_lwI v3, rfl⟩
            · exact ⟨mm_lwI v4, rfl⟩
            · exact ⟨m7, rfl⟩
          · exact mm_gm m1 _ q)) rfl rfl rfl (b0 := b0) (m0 := m0) (r0 := r0) (by rw [← hxe]; exact List.mem_filter.mpr ⟨hxk, rfl⟩) ⟨by decide, by decide, mm_npI hc.2⟩ (mm_rmF tg hbm hR)) ⟨mm_blind, va_recv hK hd.1 hcls (hent cy ad h0), fun U hU hW => mm_preU (as := .inr (.inl (some kr)) :: (st.take z.toNat).reverse) hts hK hZT hd U hU hW⟩ rfl hnl hl.1 hstk (mm_room hsum) hdg ⟨Nat.zero_le _, Nat.zero_le _⟩) hd.2.2 kk
      · cases h
    · cases h
  · rw [show Nat.beq a 4 = false from mm_bne a4] at hc h
    dsimp only [cond_false] at hc h
    obtain ⟨h9, h⟩ := mm_bif h
    obtain ⟨r, hlen, hsum, hcl, rfl, rfl, rfl⟩ := mm_ivI h
    rw [s2] at hcl
    rw [Bool.and_eq_true, Bool.and_eq_true, Bool.and_eq_true, Bool.and_eq_true, Bool.and_eq_true] at hc
    obtain ⟨⟨⟨⟨⟨c1, c2⟩, c3⟩, c4⟩, c5⟩, c6⟩ := hc
    have hbm : b < mm_NM := of_decide_eq_true c2
    obtain ⟨m1, m2, m3, m4, m5, m6, m7, -⟩ := mm_chmI (mm_ckA b hbm)
    have hM := hco b _ h0 r h1 hcl
    obtain ⟨T, N, fs, hcls, hent⟩ := mm_clsI hkr (of_decide_eq_true h9)
    rw [← m3] at hcls
    have kk : ∀ (H1 : Heap) (locs1 : List Loc), mm_dyn D cy ad A s H1 locs1 h1 → W p l e R s m args below meth c H1 locs1 0 0 Q (F0 m (pc + 3) fls ((r.map (mm_v ad)).toList ++ (st.drop (z.toNat + 1)).map (mm_v ad))) := fun H1 locs1 hd1 => by
      have := k H1 locs1 fls hd1 hl
      rw [mm_rl] at this
      exact this
    exact mm_call (va_runV ⟨hx, hb, hml, hown, mm_hg hts⟩ hM (cwV (C := (mm_ty b).cls) z.toNat (mm_hg hts) (mm_gi (fun w hw2 => by
      unfold wsV at hw2
      rcases List.mem_append.mp hw2 with q | q
      · simp only [List.mem_cons, List.not_mem_nil, or_false] at q
        rcases q with rfl | rfl | rfl | rfl
        · exact ⟨mm_lwI c3, rfl⟩
        · exact ⟨mm_lwI c4, rfl⟩
        · exact ⟨mm_lwI c5, rfl⟩
        · exact ⟨m7, rfl⟩
      · exact mm_gm m1 _ q)) rfl rfl rfl ⟨rfl, m5, m6, mm_npI c6⟩ (mm_rmF b hbm hR)) ⟨mm_blind, va_recv hK hd.1 hcls (hent cy ad h0), fun U hU hW => mm_preU (as := .inr (.inl (some kr)) :: (st.take z.toNat).reverse) hts hK hZT hd U hU hW⟩ rfl hnl hl.1 hstk (mm_room hsum) hdg ⟨Nat.zero_le _, Nat.zero_le _⟩) hd.2.2 kk
theorem mm_s_special {ix : Nat} (hmid : mid < mm_NM) (hR : R = mm_rm (d + 1)) (hco : mm_CO l call d D cy ad A) (C : mm_fix p s m args meth c mid D cy ad A) (hdg : decode (mm_by mid) pc = .ok (.invokespecial ix, 3)) (hc : mm_chi (mm_cn (mm_tc mid)) (.invokespecial ix) pc mid a b cw z = true) (h : mm_ac call pc lo st h0 (.invokespecial ix) n a b z = some (pc', lo', st', h1))
    (k : mm_K p l e R s m args below meth c Q D cy ad A (mm_ml mid) pc' lo' st' h1) : mm_K p l e R s m args below meth c Q D cy ad A (mm_ml mid) pc lo st h0 := by
  obtain ⟨hx, hb, hr, hml, hown, hts, hlocks, hK, hZT⟩ := C
  intro H locs fls hd hl
  obtain ⟨kr, hst, hkr, h⟩ := mm_rcI (st := st) (nn := z.toNat) h
  obtain ⟨s1, s2, s3⟩ := mm_split hst
  have hnl : (((st.take z.toNat).reverse).map (mm_v ad)).length = z.toNat := by
    rw [List.length_map, List.length_reverse, s3]
  have hstk : (st.map (mm_v ad)) = (((st.take z.toNat).reverse).map (mm_v ad)).reverse ++ .ref (ad kr) :: (st.drop (z.toNat + 1)).map (mm_v ad) := by
    rw [← List.map_reverse, List.reverse_reverse]
    have e1 : st.map (mm_v ad) = (st.take z.toNat ++ .inr (.inl (some kr)) :: st.drop (z.toNat + 1)).map (mm_v ad) := congrArg _ s1
    rw [e1, List.map_append]
    rfl
  unfold mm_chi at hc
  dsimp only at hc
  split at h
  · rename_i ci hci
    obtain ⟨r, hlen, hsum, hcl, rfl, rfl, rfl⟩ := mm_ivI h
    rw [s2] at hcl
    rw [Bool.and_eq_true, Bool.and_eq_true, Bool.and_eq_true, Bool.and_eq_true, Bool.and_eq_true, Bool.and_eq_true] at hc
    obtain ⟨⟨⟨⟨⟨⟨c1, c2⟩, c3⟩, c4⟩, c5⟩, c6⟩, c7⟩ := hc
    have hbm : b < mm_NM := of_decide_eq_true c2
    obtain ⟨m1, m2, m3, m4, m5, m6, m7, -⟩ := mm_chmI (mm_ckA b hbm)
    have hM := hco b _ h0 r h1 hcl
    obtain ⟨T, N, fs, hcls, hent⟩ := mm_clsI hkr hci
    have kk : ∀ (H1 : Heap) (locs1 : List Loc), mm_dyn D cy ad A s H1 locs1 h1 → W p l e R s m args below meth c H1 locs1 0 0 Q (F0 m (pc + 3) fls ((r.map (mm_v ad)).toList ++ (st.drop (z.toNat + 1)).map (mm_v ad))) := fun H1 locs1 hd1 => by
      have := k H1 locs1 fls hd1 hl
      rw [mm_rl] at this
      exact this
    exact mm_call (va_runSU (C := mm_cn ci) (hK.1 ci _ hcls).2 ⟨hx, hb, hml, hown, mm_hg hts⟩ hM (va_cwSU z.toNat (mm_hg hts) (mm_gi (fun w hw2 => by
      unfold va_wsSU at hw2
      rcases List.mem_append.mp hw2 with q | q
      · simp only [List.mem_cons, List.not_mem_nil, or_false] at q
        rcases q with rfl | rfl | rfl | rfl | rfl
        · exact ⟨mm_lwI c3, rfl⟩
        · exact ⟨of_decide_eq_true c6, rfl⟩
        · exact ⟨of_decide_eq_true c7, rfl⟩
        · exact ⟨mm_lwI c4, rfl⟩
        · exact ⟨m7, rfl⟩
      · exact mm_gm m1 _ q)) rfl rfl rfl ⟨m4, mm_npI c5⟩ (mm_rmF b hbm hR)) ⟨mm_blind, va_recv hK hd.1 hcls (hent cy ad h0), fun U hU hW => mm_preU (as := .inr (.inl (some kr)) :: (st.take z.toNat).reverse) hts hK hZT hd U hU hW⟩ rfl hnl hl.1 hstk (mm_room hsum) hdg ⟨Nat.zero_le _, Nat.zero_le _⟩) hd.2.2 kk
  · cases h
end MMC
