-- the law, its entry and its end
/-! THE CLAIM OUT OF ONE WALK OF THE LAW'S BODY. Your part is whole_start (and what it stands on); all else here is the same for every law, but numbers. -/
def lw_P (b : Addr) (xs : List Int32) (args : Array Value) (s : State) : Prop := args = #[.ref b] ∧ s.IntsAt b xs ∧ xs.length ≤ 3584 ∧ (Jvm.Cond.and given_1 narrow_1).before args s = true
def lw_Q (_ : Array Value) (s : State) (o : Outcome) (t : State) : Prop := o = .returned (some (.int 1)) ∧ Framed s o t [] 600000 7302250
def lw_Z (below : List Frame) (a : Array Value) (s : State) : State → Prop := fun t => ∃ o, t.status = .running ∧ Ended t below o ∧ lw_Q a s o t
/-- the law's own end, with 1 on the stack, nothing written that was there before, its room as the claim has it -/
theorem lw_ret {p : Program} {l : Launch} {e : Env} {s : State} {m : MethodId} {below : List Frame} {meth : Method} {c : Code} {b : Nat} (hx : p.tables.exec = Jvm.exec) (hb : c.code = code) (hr : meth.sig.returnType = ret) (hlocks : meth.locks = false) {pc : Nat} {H : Heap} {ls : Array Slot} (hdg : decode code pc = .ok (.ireturn, 1)) : W p l e room_1 s m #[Value.ref b] below meth c H [] 600000 7302250 (lw_Z below #[Value.ref b] s) (F0 m pc ls [.int 1]) := by
  intro T hT X
  obtain ⟨fs, hret, hrun, hended, hW, hframe⟩ := X.leave (v := some (.int 1)) (hlocks := hlocks) (fun h => by rw [hr] at h; cases h)
  have hmeth' : T.vm.method? m = some meth := X.method'
  refine ⟨T.setFrames fs, ?_, .returned (some (.int 1)), hrun, hended, rfl, ⟨_, rfl⟩, hW, hframe⟩
  jvm_step X.here [X.here.top, hx, hb, hdg, hmeth', hr, ret, narrow_b1]
  (try refine ⟨rfl, ?_⟩); (try refine ⟨rfl, ?_⟩)
  first | (intro acts; rw [hret _ acts rfl rfl rfl]) | rw [hret _ _ rfl rfl rfl]
  exact Steps.refl _
/-- what holds at the law's entry: the machine, the code, the tables' words (any of lw_tbl by 'hts w (by decide +kernel)'), the script of L ints xs at the cell b, what the Statement gives of the start (any of its parts by flat_of_before) -/
def lw_At (p : Program) (s : State) (m : MethodId) (meth : Method) (c : Code) (b L : Nat) (xs : Nat → Int32) : Prop :=
  p.tables.exec = Jvm.exec ∧ c.code = code ∧ meth.sig.returnType = ret ∧ c.maxLocals = 4 ∧ s.vm.findClass R_law = some m.cls ∧ (∀ w ∈ lw_tbl, w.before #[Value.ref b] s = true) ∧ va_X b L xs s s.heap ∧ b < s.heap.size ∧ meth.locks = false ∧ (Jvm.Cond.and given_1 narrow_1).before #[Value.ref b] s = true
-- a call out of the law's frame, by the mini machine
abbrev AA (s : State) : Nat → Prop := fun q : Nat => s.heap.size ≤ q
section LWC
variable {p : Program} {l : Launch} {e : Env} {s : State} {m : MethodId} {args : Array Value} {below : List Frame} {meth : Method} {c : Code} {Q : State → Prop}
variable {D : va_G} {cy : Nat → ClassId} {ad : Nat → Nat} {A : Nat → Prop} {pc cells slots d n : Nat} {h0 h1 : MH} {H : Heap} {locs : List Loc}
theorem lw_mc {st0 rest : List Value} {r : Option MV} {h' : MH} {aa : Array Value} {ls : Array Slot} (hr : va_Run p l e room_1 s m args below meth c H locs cells slots 0 0 (F0 m pc ls st0) rest (mm_Q D cy ad A r h' aa) A) (hS : va_S A s.heap H locs)
    (kk : ∀ (H1 : Heap) (locs1 : List Loc), mm_dyn D cy ad A s H1 locs1 h' → W p l e room_1 s m args below meth c H1 locs1 cells slots Q (F0 m (pc + 3) ls ((r.map (mm_v ad)).toList ++ rest))) : W p l e room_1 s m args below meth c H locs cells slots Q (F0 m pc ls st0) := by
  intro T hT X
  obtain ⟨v, st₀, t, T', L, h0, X', hL, e1, e2, ⟨⟨hv, hP, hK, hD, hZ⟩, hz, hk⟩, st⟩ := hr T hT X
  cases hv
  rw [h0] at hz hk
  obtain ⟨t2, a1, b1⟩ := kk T'.heap (locs ++ L) ⟨by rw [e1]; exact hP, hD, Nat.le_trans hS.1 (by rw [e1]; exact hz), fun q h1 h2 => by rw [e1, hk q (Nat.lt_of_lt_of_le h1 hS.1) h2]; exact hS.2.1 q h1 h2, fun q hq => by
      rcases List.mem_append.mp hq with h | h
      · exact hS.2.2 q h
      · exact hL q h⟩ T' rfl X'
  exact ⟨t2, st t2 a1, b1⟩
/-- the words that a call of the law at the pool's place ix wants -/
def lw_wk (ix mid pl na : Nat) : Bool := decide (mid < mm_NM) && mm_lw pl (.methodLink R_law ix (mm_ty mid)) && mm_lw (mm_i2 mid) (.instanceMethod (mm_ty mid)) && mm_lw (mm_i3 mid) (.selects (mm_ty mid).cls (mm_ty mid) (mm_ty mid)) && decide ((parseMethodDescriptor (mm_ty mid).desc).map (fun d => d.parameters.length) = some na)
theorem lw_call {mid kr ix pl na : Nat} {as : List Int32} {rest : List Value} {r : MV} {ls : Array Slot} {cc : ByteArray} (hx : p.tables.exec = Jvm.exec) (hb : c.code = cc) (hml : c.maxLocals = 4) (hown : s.vm.findClass R_law = some m.cls) (hts : mm_hts args s) (hK : va_K D vwCl (mm_tys cy) s) (hZT : mm_St ad A s s.heap)
    (hd : mm_dyn D cy ad A s H locs h0) (hl : ls.size = 4) (hrun : Ex d mid (.inr (.inl (some kr)) :: as.map .inl) h0 (some r, h1)) (hd30 : d ≤ 30) (hkr : kr < mm_NP) (hcls : mm_cls kr = some (mm_tc mid)) (hw : lw_wk ix mid pl na = true) (hna : as.length = na) (hW : (rest.map fun v => v.category).sum ≤ 8) (hdg : decode cc pc = .ok (.invokevirtual ix, 3))
    (kk : ∀ (H1 : Heap) (locs1 : List Loc), mm_dyn D cy ad A s H1 locs1 h1 → W p l e room_1 s m args below meth c H1 locs1 cells slots Q (F0 m (pc + 3) ls (mm_v ad r :: rest)))
    (hcl : cells ≤ room_1.cells) (hsl : slots ≤ room_1.slots) :
    W p l e room_1 s m args below meth c H locs cells slots Q (F0 m pc ls ((as.map Value.int).reverse ++ .ref (ad kr) :: rest)) := by
  unfold lw_wk at hw
  rw [Bool.and_eq_true, Bool.and_eq_true, Bool.and_eq_true, Bool.and_eq_true] at hw
  obtain ⟨⟨⟨⟨c2, c3⟩, c4⟩, c5⟩, c6⟩ := hw
  have hbm : mid < mm_NM := of_decide_eq_true c2
  obtain ⟨m1, m2, m3, m4, m5, m6, m7, -⟩ := mm_chmI (mm_ckA mid hbm)
  obtain ⟨n, hn⟩ := hrun
  have hM := mm_met l D cy ad A d n mid _ h0 (some r) h1 hn
  obtain ⟨T, N, fs, hcls, hent⟩ := mm_clsI hkr hcls
  rw [← m3] at hcls
  have hmap : (as.map (Sum.inl : Int32 → MV)).map (mm_v ad) = as.map Value.int := by rw [List.map_map]; rfl
  have hrm : (mm_rm d).frames + 1 ≤ room_1.frames ∧ 8 + (mm_ml mid + 11) + (mm_rm d).locals ≤ room_1.locals := by
    have := mm_mlB mid hbm
    constructor
    · show d + 1 + 1 ≤ 2048
      omega
    · show 8 + (mm_ml mid + 11) + 100 * (d + 1) ≤ 84000
      omega
  refine lw_mc (va_runV (As := as.map Value.int) (b := ad kr) ⟨hx, hb, hml, hown, mm_hg hts⟩ hM (cwV (C := (mm_ty mid).cls) na (mm_hg hts) (mm_gi (fun w hw2 => by
      unfold wsV at hw2
      rcases List.mem_append.mp hw2 with q | q
      · simp only [List.mem_cons, List.not_mem_nil, or_false] at q
        rcases q with rfl | rfl | rfl | rfl
        · exact ⟨mm_lwI c3, rfl⟩
        · exact ⟨mm_lwI c4, rfl⟩
        · exact ⟨mm_lwI c5, rfl⟩
        · exact ⟨m7, rfl⟩
      · exact mm_gm m1 _ q)) rfl rfl rfl ⟨rfl, m5, m6, of_decide_eq_true c6⟩ hrm) ⟨mm_blind, va_recv hK hd.1 hcls (hent cy ad h0), fun U hU hW => ?_⟩ rfl (by rw [List.length_map]; exact hna) hl rfl (lv_room hW) hdg ⟨hcl, hsl⟩) hd.2.2 kk
  have := mm_preU (as := .inr (.inl (some kr)) :: as.map .inl) hts hK hZT hd U hU hW
  have e : ((.inr (.inl (some kr)) :: as.map (Sum.inl : Int32 → MV)).map (mm_v ad)) = Value.ref (ad kr) :: as.map Value.int := by
    rw [List.map_cons, hmap]
    rfl
  rw [e] at this
  exact this
end LWC
