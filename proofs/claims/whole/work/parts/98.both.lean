-- constructors: BothCorners
section CTB
variable {p : Program} {l : Launch} {e : Env} {R : Room} {s : State} {m : MethodId} {args : Array Value} {below : List Frame} {meth : Method} {c : Code} {H : Heap} {locs : List Loc} {cells slots : Nat} {Q : State → Prop}
variable {pc : Nat} {ls : Array Slot} {D : va_G} {A : Nat → Prop} {L : va_W} {c0 : ClassId} {H0 : Heap} {tys : List (ClassId × FieldType)}
/-- aload_0, new, dup, pl pushes, the call, putfield -/
def ct_ck1 (pc pl ix w1 w2 w3 ci k ixf wf : Nat) (f0 : List Value) (ty : FieldType) : Bool := ct_is cX11_init pc (.aload_n 0) 1 && ct_nk cX11_init (pc + 1) RX11 ix w1 w2 w3 ci f0 && ct_is cX11_init (pc + 5 + pl + 3) (.putfield ixf) 3 && ct_f 11 k ixf wf true ty
theorem ct_comp {C : String} {T : u_T} {N ci pl ix w1 w2 w3 k ixf wf h0 mc ms : Nat} {f0 fs : List Value} {ty : FieldType} {As : List Value} {S : Type} {post : S → Prop} {B : Nat → Nat → S → State → Prop} {Wf : Nat → S → va_W} {ty1 : S → List (ClassId × FieldType)} {aa : Nat → Array Value}
    (hcl : vwCl[ci]? = some (C, T, N)) (hck : ct_ck1 pc pl ix w1 w2 w3 ci k ixf wf f0 ty = true) (hx : p.tables.exec = Jvm.exec) (hb : c.code = cX11_init) (hts : ∀ w ∈ lw_g, w.before args s = true) (hown : s.vm.findClass RX11 = some m.cls) (hin2 : meth.name = "<init>") (hl0 : ls[0]? = some (.val (.ref h0))) (hK : va_K D vwCl tys s) (hA : ∀ q, H0.size ≤ q → A q) (hfs : fs.length = 11) (hn : ∀ q : Nat, narrow ty (.ref q) = .ref q) (hfit : ∀ q : Nat, fits ty (.ref q) = true) (hcells : cells + 1 ≤ R.cells) (hslots : slots + N ≤ R.slots)
    (hpush : ∀ (q : Nat) (H1 : Heap), W p l e R s m args below meth c H1 locs (cells + 1) (slots + N) Q (F0 m (pc + 5 + pl) ls (As.reverse ++ .ref q :: [.ref q, .ref h0])) → W p l e R s m args below meth c H1 locs (cells + 1) (slots + N) Q (F0 m (pc + 5) ls (.ref q :: [.ref q, .ref h0])))
    (hrun : ∀ (q : Nat) (H1 : Heap), va_P D vwCl [(q, .inr (ci, f0))] H1 → va_D (fun _ => True) [(q, .inr (ci, f0))] → va_Run p l e R s m args below meth c H1 locs (cells + 1) (slots + N) mc ms (F0 m (pc + 5 + pl) ls (As.reverse ++ .ref q :: [.ref q, .ref h0])) [.ref q, .ref h0] (va_Qv post (B q H1.size) (va_A [(q, .inr (ci, f0))] H1.size) (aa q)) (va_A [(q, .inr (ci, f0))] H1.size))
    (hB : ∀ (q sz : Nat) (u : S) (t : State), B q sz u t → va_P D vwCl (Wf q u) t.heap ∧ va_K D vwCl (ty1 u) t ∧ va_D (va_A [(q, .inr (ci, f0))] sz) (Wf q u))
    (hP : va_P D vwCl ((h0, .inr (11, fs)) :: L) H) (hD : va_D A ((h0, .inr (11, fs)) :: L)) (hS : va_S A H0 H locs)
    (kk : ∀ (q : Nat) (u : S) (H1 : Heap) (locs1 : List Loc), post u → va_P D vwCl ((h0, .inr (11, fs.set k (.ref q))) :: (L ++ Wf q u)) H1 → va_D A ((h0, .inr (11, fs.set k (.ref q))) :: (L ++ Wf q u)) → va_K D vwCl (ty1 u) s → va_S A H0 H1 locs1 → W p l e R s m args below meth c H1 locs1 (cells + 1 + mc) (slots + N + ms) Q (F0 m (pc + 5 + pl + 6) ls [])) :
    W p l e R s m args below meth c H locs cells slots Q (F0 m pc ls []) := by
  unfold ct_ck1 at hck
  rw [Bool.and_eq_true, Bool.and_eq_true, Bool.and_eq_true] at hck
  obtain ⟨⟨⟨k1, k2⟩, k3⟩, k4⟩ := hck
  refine lv_aload_n hx hb (ct_isI k1) rfl hl0 ?_
  refine ct_new hcl k2 hx hb hts hown hK hP hD hS hA hcells hslots (fun q H1 hP1 hD1 hS1 => ?_)
  refine hpush q H1 ?_
  have hPc : va_P D vwCl [(q, .inr (ci, f0))] H1 := hP1.sub [((h0, .inr (11, fs)) :: L).length] (by
    have h := ct_lst (ws := (h0, .inr (11, fs)) :: L) (x := (q, .inr (ci, f0)))
    simp only [List.filterMap_cons, List.filterMap_nil, h])
  have hDc : va_D (fun _ => True) [(q, .inr (ci, f0))] := (hD1.sub (ws' := [(q, .inr (ci, f0))]) [((h0, .inr (11, fs)) :: L).length] (by simp [va_nd]) (by
    have h := ct_lst (ws := (h0, .inr (11, fs)) :: L) (x := (q, .inr (ci, f0)))
    rw [List.map_cons, List.map_nil, h]
    rfl)).weaken (fun _ _ _ _ => trivial)
  refine ct_init (hrun q H1 hPc hDc) (hB q H1.size) hP1 hD1 hS1 hA (fun u H2 locs2 hu hP2 hD2 hK2 hS2 => ?_)
  have hP2 : va_P D vwCl ((h0, .inr (11, fs)) :: (L ++ Wf q u)) H2 := hP2
  have hD2 : va_D A ((h0, .inr (11, fs)) :: (L ++ Wf q u)) := hD2
  exact ct_putq (arrs := L ++ Wf q u) (show vwCl[11]? = some (RX11, TX11, 11) from rfl) hx hb hts hown hin2 hK k4 hfs (hn q) (hfit q) hP2 hD2 hS2 (ct_isI k3) (fun H3 locs3 hP3 hD3 hS3 => kk q u H3 locs3 hu hP3 hD3 hK2 hS3)
/-- a part whose constructor makes int arrays only -/
def ct_ck2 (pc ixi w4 w5 w6 w3 : Nat) (y : MethodName) (cb : ByteArray) : Bool := ct_is cX11_init (pc + 5) (.invokespecial ixi) 3 && mm_lw w4 (.methodLinkNest RX11 ixi y "BothCorners") && mm_lw w5 (.instanceMethod y) && mm_lw w6 (.code y cb 1 none) && mm_lw w3 (.initialized y.cls)
theorem ct_cM {C : String} {T : u_T} {N ci ix w1 w2 w3 k ixf wf h0 ixi w4 w5 w6 : Nat} {f0 fs : List Value} {ty : FieldType} {y : MethodName} {cb : ByteArray} {steps : List CtS}
    (hcl : vwCl[ci]? = some (C, T, N)) (hck : ct_ck1 pc 0 ix w1 w2 w3 ci k ixf wf f0 ty = true) (hck2 : ct_ck2 pc ixi w4 w5 w6 w3 y cb = true) (hM : ∀ (l : Launch) (D : va_G) (c0 : ClassId) (h0 sz : Nat), ct_Met y cb ci steps f0 l D c0 h0 sz) (hysn : y.name = "<init>") (hne : y.cls ≠ "java/lang/invoke/MethodHandle" ∧ y.cls ≠ "java/lang/invoke/VarHandle") (hnp : (parseMethodDescriptor y.desc).map (fun d => d.parameters.length) = some 0) (hfl : 1 + 1 ≤ R.frames ∧ 8 + (1 + 11) + 12 ≤ R.locals)
    (hx : p.tables.exec = Jvm.exec) (hb : c.code = cX11_init) (hml : c.maxLocals = 2) (hls : ls.size = 2) (hts : ∀ w ∈ lw_g, w.before args s = true) (hown : s.vm.findClass RX11 = some m.cls) (hN : mm_Nst s) (hin2 : meth.name = "<init>") (hl0 : ls[0]? = some (.val (.ref h0))) (hK : va_K D vwCl [(c0, .int)] s) (hA : ∀ q, H0.size ≤ q → A q) (hfs : fs.length = 11) (hn : ∀ q : Nat, narrow ty (.ref q) = .ref q) (hfit : ∀ q : Nat, fits ty (.ref q) = true) (hcells : cells + 1 + ct_n steps ≤ R.cells) (hslots : slots + N + ct_s steps ≤ R.slots)
    (hP : va_P D vwCl ((h0, .inr (11, fs)) :: L) H) (hD : va_D A ((h0, .inr (11, fs)) :: L)) (hS : va_S A H0 H locs)
    (kk : ∀ (q : Nat) (u : List Nat) (H1 : Heap) (locs1 : List Loc), u.length = ct_n steps → va_P D vwCl ((h0, .inr (11, fs.set k (.ref q))) :: (L ++ ct_W c0 ci q steps f0 u)) H1 → va_D A ((h0, .inr (11, fs.set k (.ref q))) :: (L ++ ct_W c0 ci q steps f0 u)) → va_S A H0 H1 locs1 → W p l e R s m args below meth c H1 locs1 (cells + 1 + ct_n steps) (slots + N + ct_s steps) Q (F0 m (pc + 11) ls [])) :
    W p l e R s m args below meth c H locs cells slots Q (F0 m pc ls []) := by
  unfold ct_ck2 at hck2
  rw [Bool.and_eq_true, Bool.and_eq_true, Bool.and_eq_true, Bool.and_eq_true] at hck2
  obtain ⟨⟨⟨⟨j1, j2⟩, j3⟩, j4⟩, j5⟩ := hck2
  refine ct_comp (pl := 0) (As := []) (mc := ct_n steps) (ms := ct_s steps) (post := fun u : List Nat => u.length = ct_n steps) (B := fun q sz u t => va_P D vwCl (ct_W c0 ci q steps f0 u) t.heap ∧ va_K D vwCl [(c0, .int)] t ∧ va_D (va_A [(q, .inr (ci, f0))] sz) (ct_W c0 ci q steps f0 u)) (Wf := fun q u => ct_W c0 ci q steps f0 u) (ty1 := fun _ => [(c0, .int)]) (aa := fun q => #[.ref q]) hcl hck hx hb hts hown hin2 hl0 hK hA hfs hn hfit (by omega) (by omega) (fun q H1 k => k) (fun q H1 hPc hDc => ?_) (fun q sz u t h => h) hP hD hS (fun q u H1 locs1 hu hP1 hD1 _ hS1 => kk q u H1 locs1 hu hP1 hD1 hS1)
  exact va_runIN (As := []) (rest := [.ref q, .ref h0]) (host := "BothCorners") ⟨hx, hb, hml, hown, hts⟩ (hM l D c0 q H1.size) ⟨va_cnB 0 hts (mm_gi (mm_gm (mm_lwI j4))) rfl rfl rfl (hN _ (mm_lwI j2) rfl) (ct_g hts j5 rfl) ⟨hne.1, hne.2, hnp⟩ hfl, hysn, ct_g hts j3 rfl⟩ ⟨fun a U g mk q => by obtain ⟨q0, q1, qP, qK, qD⟩ := q; exact ⟨q0, q1, qP, va_K.moved (u := U) (U := U.calling g mk a) (Vm.Alike.refl U.vm) qK, qD⟩, fun U hU hW => ⟨rfl, by rw [hU], by rw [hU]; exact hPc, va_K.moved hW.alike hK, hDc⟩⟩ rfl rfl hls rfl (lv_room (Nat.le_of_ble_eq_true rfl)) (ct_isI j1) ⟨hcells, hslots⟩
-- a house
set_option maxRecDepth 100000 in
theorem ct_w2 : mm_lw 140 (.methodLink RX11 27 yX3_init) = true ∧ mm_lw 141 (.instanceMethod yX3_init) = true ∧ mm_lw 142 (.code yX3_init cX3_init 2 none) = true ∧ mm_lw 78 (.initialized yX3_init.cls) = true := by decide +kernel
theorem ct_cH {k ixf wf h0 kq : Nat} {fs : List Value} {ty : FieldType}
    (hck : (ct_ck1 pc 1 25 138 139 78 3 k ixf wf f0X3 ty && ct_is cX11_init (pc + 5) (.aload_n 1) 1 && ct_is cX11_init (pc + 6) (.invokespecial 27) 3) = true) (hfl : 1 + 1 ≤ R.frames ∧ 8 + (2 + 11) + 12 ≤ R.locals)
    (hx : p.tables.exec = Jvm.exec) (hb : c.code = cX11_init) (hml : c.maxLocals = 2) (hls : ls.size = 2) (hts : ∀ w ∈ lw_g, w.before args s = true) (hown : s.vm.findClass RX11 = some m.cls) (hin2 : meth.name = "<init>") (hl0 : ls[0]? = some (.val (.ref h0))) (hl1 : ls[1]? = some (.val (.ref kq))) (hK : va_K D vwCl [(c0, .int)] s) (hA : ∀ q, H0.size ≤ q → A q) (hfs : fs.length = 11) (hn : ∀ q : Nat, narrow ty (.ref q) = .ref q) (hfit : ∀ q : Nat, fits ty (.ref q) = true) (hcells : cells + 1 + ct_n stX3 ≤ R.cells) (hslots : slots + 11 + ct_s stX3 ≤ R.slots)
    (hP : va_P D vwCl ((h0, .inr (11, fs)) :: L) H) (hD : va_D A ((h0, .inr (11, fs)) :: L)) (hS : va_S A H0 H locs)
    (kk : ∀ (q : Nat) (u : List Nat) (H1 : Heap) (locs1 : List Loc), u.length = ct_n stX3 → va_P D vwCl ((h0, .inr (11, fs.set k (.ref q))) :: (L ++ ct_W3 c0 q kq u)) H1 → va_D A ((h0, .inr (11, fs.set k (.ref q))) :: (L ++ ct_W3 c0 q kq u)) → va_S A H0 H1 locs1 → W p l e R s m args below meth c H1 locs1 (cells + 1 + ct_n stX3) (slots + 11 + ct_s stX3) Q (F0 m (pc + 12) ls [])) :
    W p l e R s m args below meth c H locs cells slots Q (F0 m pc ls []) := by
  rw [Bool.and_eq_true, Bool.and_eq_true] at hck
  obtain ⟨⟨hck, j1⟩, j2⟩ := hck
  obtain ⟨n1, n2, n3, n4⟩ := ct_w2
  refine ct_comp (ci := 3) (C := RX3) (T := TX3) (N := 11) (pl := 1) (As := [.ref kq]) (mc := ct_n stX3) (ms := ct_s stX3) (post := fun u : List Nat => u.length = ct_n stX3) (B := fun q sz u t => va_P D vwCl (ct_W3 c0 q kq u) t.heap ∧ va_K D vwCl [(c0, .int)] t ∧ va_D (va_A [(q, .inr (3, f0X3))] sz) (ct_W3 c0 q kq u)) (Wf := fun q u => ct_W3 c0 q kq u) (ty1 := fun _ => [(c0, .int)]) (aa := fun q => #[.ref q, .ref kq]) rfl hck hx hb hts hown hin2 hl0 hK hA hfs hn hfit (by omega) (by omega) (fun q H1 k => lv_aload_n hx hb (ct_isI j1) rfl hl1 k) (fun q H1 hPc hDc => ?_) (fun q sz u t h => h) hP hD hS (fun q u H1 locs1 hu hP1 hD1 _ hS1 => kk q u H1 locs1 hu hP1 hD1 hS1)
  exact va_runI (As := [.ref kq]) (rest := [.ref q, .ref h0]) ⟨hx, hb, hml, hown, hts⟩ (c_X3 l D c0 q kq H1.size) (cwI 1 hts (mm_gi (mm_gm (mm_lwI n3))) rfl rfl rfl (ct_g hts n4 rfl) (ct_g hts n1 rfl) (ct_g hts n2 rfl) rfl ⟨by decide, by decide, by decide +kernel⟩ hfl) ⟨fun a U g mk q => by obtain ⟨q0, q1, qP, qK, qD⟩ := q; exact ⟨q0, q1, qP, va_K.moved (u := U) (U := U.calling g mk a) (Vm.Alike.refl U.vm) qK, qD⟩, fun U hU hW => ⟨rfl, by rw [hU], by rw [hU]; exact hPc, va_K.moved hW.alike hK, hDc⟩⟩ rfl rfl hls rfl (lv_room (Nat.le_of_ble_eq_true rfl)) (ct_isI j2) ⟨hcells, hslots⟩
end CTB
