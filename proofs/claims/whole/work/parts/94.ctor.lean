-- constructors: contracts of those that make arrays only
set_option maxRecDepth 100000 in
theorem ct_w1 : mm_lw 93 (.instanceMethod Lib.objectInit) = true ∧ mm_lw 94 (.code Lib.objectInit ⟨#[0xb1]⟩ 1 none) = true ∧ mm_lw 192 (.arrayClass .int) = true := by decide +kernel
def ct_cc (cc : ByteArray) (ci : Nat) (C : String) (steps : List CtS) (ix0 w0 : Nat) : Bool := ct_is cc 0 (.aload_n 0) 1 && ct_is cc 1 (.invokespecial ix0) 3 && mm_lw w0 (.methodLink C ix0 Lib.objectInit) && ct_ck cc ci steps 4 && ct_is cc (ct_pe steps 4) .return_ 1
theorem ct_g {args : Array Value} {s : State} (hts : ∀ w ∈ lw_g, w.before args s = true) {i : Nat} {w : Jvm.Cond} (h : mm_lw i w = true) (hg : goodWord w = true) : w.before args s = true := hts w (List.mem_filter.mpr ⟨mm_lwI h, hg⟩)
abbrev ct_W (c0 : ClassId) (ci h0 : Nat) (steps : List CtS) (fs0 : List Value) (qs : List Nat) : va_W := (h0, .inr (ci, ct_fs steps fs0 qs)) :: ct_ar c0 steps qs
abbrev ct_Met (y : MethodName) (cc : ByteArray) (ci : Nat) (steps : List CtS) (fs0 : List Value) (l : Launch) (D : va_G) (c0 : ClassId) (h0 sz : Nat) : Prop :=
  Met l y (.code y cc 1 none :: lw_g) ({ frames := 1, cells := ct_n steps, slots := ct_s steps, locals := 12 }) (va_Pc [.ref h0] (fun U => U.heap.size = sz ∧ va_P D vwCl [(h0, .inr (ci, fs0))] U.heap ∧ va_K D vwCl [(c0, .int)] U ∧ va_D (fun _ => True) [(h0, .inr (ci, fs0))]))
      (va_Qv (fun qs : List Nat => qs.length = ct_n steps) (fun qs t => va_P D vwCl (ct_W c0 ci h0 steps fs0 qs) t.heap ∧ va_K D vwCl [(c0, .int)] t ∧ va_D (va_A [(h0, .inr (ci, fs0))] sz) (ct_W c0 ci h0 steps fs0 qs)) (va_A [(h0, .inr (ci, fs0))] sz)) (ct_n steps) (ct_s steps) (va_A [(h0, .inr (ci, fs0))] sz)
theorem ct_met {y : MethodName} {cc : ByteArray} {ci ix0 w0 : Nat} {C : String} {T : u_T} {N : Nat} {steps : List CtS} {fs0 : List Value} (hcl : vwCl[ci]? = some (C, T, N)) (hy : y.cls = C) (hyn : y.name = "<init>") (hpn : plainName y.cls = true) (hfs : fs0.length = N) (hck : ct_cc cc ci C steps ix0 w0 = true) (l : Launch) (D : va_G) (c0 : ClassId) (h0 sz : Nat) :
    ct_Met y cc ci steps fs0 l D c0 h0 sz := by
  unfold ct_cc at hck
  rw [Bool.and_eq_true, Bool.and_eq_true, Bool.and_eq_true, Bool.and_eq_true] at hck
  obtain ⟨⟨⟨⟨k1, k2⟩, k3⟩, k4⟩, k5⟩ := hck
  refine Met.ofW (cc := cc) (maxL := 1) (ret := none) hpn rfl ?_
  intro p e s m args below meth c s₁ B hml hv
  obtain ⟨rfl, hsz, hP, hK, hD0⟩ := hv
  have hx := B.exec
  have hb := B.bytes
  have hr := B.returns
  have hts : ∀ w ∈ lw_g, w.before _ s = true := fun w hw => atoms_spec (ws := .code y cc 1 none :: lw_g) B.pre w (List.mem_cons_of_mem _ hw)
  have hown : s.vm.findClass C = some m.cls := by rw [← hy]; exact findClass_of_methodNamed B.named
  have hlocks := B.notSynchronized
  have hin : meth.name = "<init>" := by rw [(name_of_methodNamed B.named B.method).1]; exact hyn
  subst hsz
  have hD := hD0.self (sz := s.heap.size)
  generalize hAe : va_A [(h0, .inr (ci, fs0))] s.heap.size = A at hD ⊢
  have hA : ∀ q : Nat, s.heap.size ≤ q → A q := fun q h => by rw [← hAe]; exact Or.inr h
  have hS : va_S A s.heap s.heap [] := va_S.rf
  have hl := lv_entry ([.ref h0]) (n := 1) (Nat.le_of_ble_eq_true rfl)
  rw [lg_entry_eq]
  generalize (lg_sl ([.ref h0]) ++ List.replicate (1 - (lg_sl ([.ref h0])).length) Slot.unset).toArray = ls at hl ⊢
  have hl : lv_has ls 1 [(0, .ref h0)] := hl
  have hl0 := lv_at hl 0 rfl
  refine lv_aload_n hx hb (ct_isI k1) rfl hl0 ?_
  refine W.objInit hx hb hown (ct_g hts k3 rfl) (ct_g hts ct_w1.1 rfl) (ct_g hts ct_w1.2.1 rfl) rfl (by rw [hml]; exact hl.1) rfl (ct_isI k2) (Nat.le_of_ble_eq_true rfl) (Nat.le_of_ble_eq_true rfl) ?_
  refine W.eq (g2 := F0 m 4 ls []) rfl ?_
  refine ct_go hcl hx hb hts hown hin (ct_g hts ct_w1.2.2 rfl) hK hK hA hl0 steps 4 fs0 [] s.heap [] 0 0 k4 hfs hP hD hS (by show 0 + ct_n steps ≤ ct_n steps; omega) (by show 0 + ct_s steps ≤ ct_s steps; omega) (fun H1 locs1 qs hq hP1 hD1 hS1 => ?_)
  rw [Nat.zero_add, Nat.zero_add]
  rw [List.nil_append] at hP1 hD1
  exact W.vret hx hb hr (fun t ht hW => ⟨⟨qs, rfl, hq, by rw [ht]; exact hP1, va_K.moved hW.alike hK, hD1⟩, hS1.F ht⟩) hS1.2.2 (ct_isI k5)
