-- constructors: calls of constructors out of a constructor or the law
theorem ct_fie {vm vm' : Vm} (h : vm.Alike vm') (f : Class → Bool) (hf : ∀ k : Class, f k.bare = f k) : vm'.classes.findIdx? f = vm.classes.findIdx? f := by
  have e : ∀ v : Vm, v.bare.classes.findIdx? f = v.classes.findIdx? f := fun v => by
    simp only [Vm.bare, Array.findIdx?_map]
    congr 1
    funext k
    exact hf k
  rw [← e vm', ← e vm, h.bare_eq]
theorem va_AOA.moved {t : FieldType} {u U : State} (hvm : u.vm.Alike U.vm) (h : va_AOA t u) : va_AOA t U := by
  have e : (Cond.arrayOver (.array t)).before #[] U = (Cond.arrayOver (.array t)).before #[] u := by
    simp only [Cond.before, Cond.holds, Cond.value, hvm.findClass]
    congr 1
    congr 1
    funext comp
    rw [ct_fie hvm _ (fun k => rfl)]
    congr 1
    funext c
    exact hvm.class_map _ (fun k r _ _ => rfl) c
  exact e.trans h
/-- what the start of a constructor holds beside the cells -/
def CtX (U : State) : Prop := mm_Nst U ∧ va_AO "BothCorners$Way" U ∧ va_AOA .int U ∧ ∀ C ∈ ["BothCorners$Crept", "BothCorners$Turned", "BothCorners$Rolled", "BothCorners$Crossed", "BothCorners$Taped"], va_Nw (.castable C "BothCorners$Way") U
theorem CtX.warm {s U : State} (hW : s.WarmedH U.vm) (h : CtX s) : CtX U := ⟨mm_Nm hW h.1, va_AO.moved hW.alike h.2.1, va_AOA.moved hW.alike h.2.2.1, fun C hC => va_Nw.warmC hW (h.2.2.2 C hC)⟩
theorem CtX.eqv {s U : State} (hV : s.vm = U.vm) (h : CtX s) : CtX U := ⟨mm_Ns hV h.1, va_AO.moved (hV ▸ Vm.Alike.refl s.vm) h.2.1, va_AOA.moved (hV ▸ Vm.Alike.refl s.vm) h.2.2.1, fun C hC => va_tabs rfl hV (h.2.2.2 C hC)⟩
theorem ct_ndr : ∀ n : Nat, va_nd (List.range n) = true := by
  intro n
  have key : ∀ l : List Nat, l.Nodup → va_nd l = true := by
    intro l
    induction l with
    | nil => intro _; rfl
    | cons a l ih =>
      intro h
      rw [List.nodup_cons] at h
      simp only [va_nd, Bool.and_eq_true, decide_eq_true_eq]
      exact ⟨h.1, ih h.2⟩
  exact key _ List.nodup_range
theorem ct_rng {ws : va_W} {x : Nat × va_E} : (List.range ws.length).map (fun i => (ws ++ [x])[i]?) = ws.map some := by
  apply List.ext_getElem?
  intro i
  rw [List.getElem?_map, List.getElem?_map]
  by_cases h : i < ws.length
  · rw [List.getElem?_range h, List.getElem?_eq_getElem h]
    simp [List.getElem?_append_left h, h]
  · rw [List.getElem?_eq_none (show (List.range ws.length).length ≤ i by rw [List.length_range]; omega), List.getElem?_eq_none (show ws.length ≤ i by omega)]
    rfl
theorem ct_lst {ws : va_W} {x : Nat × va_E} : (ws ++ [x])[ws.length]? = some x := by simp
theorem ct_join {A0 : Nat → Prop} {D : va_G} {ws w1 : va_W} {x : Nat × va_E} {H H1 : Heap} (hP : va_P D vwCl (ws ++ [x]) H) (hD : va_D A0 (ws ++ [x])) (hk : ∀ q : Nat, q < H.size → ¬ va_A [x] H.size q → H1[q]? = H[q]?) (hF : ∀ q, va_A [x] H.size q → A0 q) (hP1 : va_P D vwCl w1 H1) (hD1 : va_D (va_A [x] H.size) w1) : va_P D vwCl (ws ++ w1) H1 ∧ va_D A0 (ws ++ w1) :=
  va_join (wc := [x]) (wr := ws) hP hD [ws.length] (List.range ws.length) (by rw [List.map_cons, List.map_nil, ct_lst]; rfl) ct_rng (ct_ndr _) (fun i hi h => by
    have h1 := List.mem_range.mp hi
    have h2 := List.mem_singleton.mp h
    omega) hk hF hP1 hD1
def ct_df (T : u_T) (N : Nat) (fs : List Value) : Bool := decide (fs.length = N) && (List.range N).all (fun j => match parseFieldDescriptor (T j).2.2.1 with
  | some ty => decide (defaultValue ty = vp_V fs j)
  | none => false)
/-- new and dup: the words -/
def ct_nk (cc : ByteArray) (pc : Nat) (own : String) (ix w1 w2 w3 ci : Nat) (fs : List Value) : Bool := match vwCl[ci]? with
  | some (C, T, N) => ct_is cc pc (.new ix) 3 && ct_is cc (pc + 3) .dup 1 && mm_lw w1 (.classLink own ix C) && mm_lw w2 (.instantiable C N) && mm_lw w3 (.initialized C) && ct_df T N fs
  | none => false
section CTN
variable {p : Program} {l : Launch} {e : Env} {R : Room} {s : State} {m : MethodId} {args : Array Value} {below : List Frame} {meth : Method} {c : Code} {H : Heap} {locs : List Loc} {cells slots : Nat} {Q : State → Prop}
variable {cc : ByteArray} {pc : Nat} {ls : Array Slot} {rest : List Value} {D : va_G} {A : Nat → Prop} {ws : va_W} {c0 : ClassId} {H0 : Heap} {tys : List (ClassId × FieldType)}
theorem ct_new {own C : String} {T : u_T} {N ci ix w1 w2 w3 : Nat} {fs : List Value} (hcl : vwCl[ci]? = some (C, T, N)) (hck : ct_nk cc pc own ix w1 w2 w3 ci fs = true) (hx : p.tables.exec = Jvm.exec) (hb : c.code = cc) (hts : ∀ w ∈ lw_g, w.before args s = true) (hown : s.vm.findClass own = some m.cls) (hK : va_K D vwCl tys s) (hP : va_P D vwCl ws H) (hD : va_D A ws) (hS : va_S A H0 H locs) (hA : ∀ q, H0.size ≤ q → A q) (hcells : cells + 1 ≤ R.cells) (hslots : slots + N ≤ R.slots)
    (kk : ∀ (q : Nat) (H1 : Heap), va_P D vwCl (ws ++ [(q, .inr (ci, fs))]) H1 → va_D A (ws ++ [(q, .inr (ci, fs))]) → va_S A H0 H1 locs → W p l e R s m args below meth c H1 locs (cells + 1) (slots + N) Q (F0 m (pc + 4) ls (.ref q :: .ref q :: rest))) : W p l e R s m args below meth c H locs cells slots Q (F0 m pc ls rest) := by
  unfold ct_nk at hck
  rw [hcl] at hck
  dsimp only at hck
  rw [Bool.and_eq_true, Bool.and_eq_true, Bool.and_eq_true, Bool.and_eq_true, Bool.and_eq_true] at hck
  obtain ⟨⟨⟨⟨⟨k1, k2⟩, k3⟩, k4⟩, k5⟩, k6⟩ := hck
  unfold ct_df at k6
  rw [Bool.and_eq_true] at k6
  obtain ⟨ty0, hty, hnm⟩ := mm_clT hcl
  refine va_new (ci := ci) (fs := fs) hx hb hts (mm_clW hcl) ty0 hty hown (ct_g hts k3 rfl) (ct_g hts k4 rfl) (ct_g hts k5 rfl) hK hP hD hS hA hcl (fun j hj => ?_) hcells hslots (ct_isI k1) (fun q H1 hP1 hD1 hS1 => ?_)
  · have h := List.all_eq_true.mp k6.2 j (List.mem_range.mpr hj)
    rw [hty j hj] at h
    exact of_decide_eq_true h
  · exact lv_dup hx hb (ct_isI k2) rfl (kk q H1 hP1 hD1 hS1)
theorem ct_init {S : Type} {post : S → Prop} {B : S → State → Prop} {Wf : S → va_W} {ty1 : S → List (ClassId × FieldType)} {q : Nat} {en : va_E} {st0 : List Value} {aa : Array Value} {mc ms : Nat} (hrun : va_Run p l e R s m args below meth c H locs cells slots mc ms (F0 m pc ls st0) rest (va_Qv post B (va_A [(q, en)] H.size) aa) (va_A [(q, en)] H.size))
    (hB : ∀ (u : S) (t : State), B u t → va_P D vwCl (Wf u) t.heap ∧ va_K D vwCl (ty1 u) t ∧ va_D (va_A [(q, en)] H.size) (Wf u)) (hP : va_P D vwCl (ws ++ [(q, en)]) H) (hD : va_D A (ws ++ [(q, en)])) (hS : va_S A H0 H locs) (hA : ∀ q, H0.size ≤ q → A q)
    (kk : ∀ (u : S) (H1 : Heap) (locs1 : List Loc), post u → va_P D vwCl (ws ++ Wf u) H1 → va_D A (ws ++ Wf u) → va_K D vwCl (ty1 u) s → va_S A H0 H1 locs1 → W p l e R s m args below meth c H1 locs1 (cells + mc) (slots + ms) Q (F0 m (pc + 3) ls rest)) : W p l e R s m args below meth c H locs cells slots Q (F0 m pc ls st0) := by
  have hF : ∀ q', va_A [(q, en)] H.size q' → A q' := va_free (wc := [(q, en)]) hD hS hA [ws.length] (by rw [List.map_cons, List.map_nil, ct_lst]; rfl)
  refine va_callv hrun hS (fun q' _ h => hF q' h) hF (fun u t H1 locs1 ht hvm hw hBt hz1 hk1 hS1 => ?_)
  obtain ⟨hP1, hK1, hD1⟩ := hB u t hBt
  rw [ht] at hP1
  obtain ⟨hP2, hD2⟩ := ct_join hP hD hk1 hF hP1 hD1
  exact kk u H1 locs1 hw hP2 hD2 (va_K.moved hvm.symm hK1) hS1
/-- one of the six ways into the row of kinds -/
def ct_wk (pc i ix w1 w2 w3 ci ixi w4 w5 w6 : Nat) (y : MethodName) (cb : ByteArray) : Bool :=
  ct_is cX11_init pc .dup 1 && ct_is cX11_init (pc + 1) (.iconst (i : Int)) 1 && ct_nk cX11_init (pc + 2) RX11 ix w1 w2 w3 ci [] && ct_is cX11_init (pc + 6) (.invokespecial ixi) 3 && ct_is cX11_init (pc + 9) .aastore 1 &&
    mm_lw w4 (.methodLinkNest RX11 ixi y "BothCorners") && mm_lw w5 (.instanceMethod y) && mm_lw w6 (.code y cb 1 none) && mm_lw w3 (.initialized y.cls) && decide (i < 6)
theorem ct_wlst {x y z : Nat × va_E} {L : va_W} : (x :: y :: (L ++ [z]))[L.length + 2]? = some z := by simp
theorem ct_way {C : String} {T : u_T} {i ix w1 w2 w3 ci ixi w4 w5 w6 : Nat} {y : MethodName} {cb : ByteArray} {fr lc h0 kq : Nat} {e0 : va_E} {cW : ClassId} {f : Nat → Option Nat} {L : va_W} (hcl : vwCl[ci]? = some (C, T, 0)) (hck : ct_wk pc i ix w1 w2 w3 ci ixi w4 w5 w6 y cb = true) (hM : ∀ (l : Launch) (h0 : Nat), ct_M0 l y cb fr lc h0) (hysn : y.name = "<init>") (hne : y.cls ≠ "java/lang/invoke/MethodHandle" ∧ y.cls ≠ "java/lang/invoke/VarHandle") (hnp : (parseMethodDescriptor y.desc).map (fun d => d.parameters.length) = some 0) (hfl : fr + 1 ≤ R.frames ∧ 8 + (1 + 11) + lc ≤ R.locals) (hca : C = "BothCorners$Way" ∨ va_Nw (.castable C "BothCorners$Way") s)
    (hx : p.tables.exec = Jvm.exec) (hb : c.code = cX11_init) (hml : c.maxLocals = 2) (hls : ls.size = 2) (hts : ∀ w ∈ lw_g, w.before args s = true) (hown : s.vm.findClass RX11 = some m.cls) (hN : mm_Nst s) (hK : va_K D vwCl [(c0, .int), (cW, .object "BothCorners$Way")] s) (hA : ∀ q, H0.size ≤ q → A q) (hcells : cells + 1 ≤ R.cells) (hslots : slots ≤ R.slots)
    (hP : va_P D vwCl ((h0, e0) :: (kq, .inl (cW, 6, .inr (.inr (.inr (.inr f))))) :: L) H) (hD : va_D A ((h0, e0) :: (kq, .inl (cW, 6, .inr (.inr (.inr (.inr f))))) :: L)) (hS : va_S A H0 H locs)
    (kk : ∀ (q : Nat) (H1 : Heap) (locs1 : List Loc), va_P D vwCl ((h0, e0) :: (kq, .inl (cW, 6, .inr (.inr (.inr (.inr (va_up f i (some q))))))) :: (L ++ [(q, .inr (ci, []))])) H1 → va_D A ((h0, e0) :: (kq, .inl (cW, 6, .inr (.inr (.inr (.inr (va_up f i (some q))))))) :: (L ++ [(q, .inr (ci, []))])) → va_S A H0 H1 locs1 → W p l e R s m args below meth c H1 locs1 (cells + 1) slots Q (F0 m (pc + 10) ls [.ref kq])) :
    W p l e R s m args below meth c H locs cells slots Q (F0 m pc ls [.ref kq]) := by
  unfold ct_wk at hck
  rw [Bool.and_eq_true, Bool.and_eq_true, Bool.and_eq_true, Bool.and_eq_true, Bool.and_eq_true, Bool.and_eq_true, Bool.and_eq_true, Bool.and_eq_true, Bool.and_eq_true] at hck
  obtain ⟨⟨⟨⟨⟨⟨⟨⟨⟨k1, k2⟩, k3⟩, k4⟩, k5⟩, k6⟩, k7⟩, k8⟩, k9⟩, k10⟩ := hck
  have hi6 : i < 6 := of_decide_eq_true k10
  have en : (Int32.ofInt (i : Int)).toNatClampNeg = i := by
    have h := I_nat (z := (i : Int)) (by omega) (by omega)
    rw [Int.toNat_natCast] at h
    exact h
  have hin : vp_in (Int32.ofInt (i : Int)) 6 := by
    rintro (q | q)
    · have h := I_lt (a := (i : Int)) (b := 0) (by omega) (by omega) (by omega) (by omega)
      have q' : I (i : Int) < I 0 := q
      rw [h] at q'
      omega
    · rw [en] at q
      omega
  refine lv_dup hx hb (ct_isI k1) rfl ?_
  refine lv_iconst (v := Int32.ofInt (i : Int)) hx hb (ct_isI k2) rfl ?_
  refine ct_new hcl k3 hx hb hts hown hK hP hD hS hA hcells (by omega) (fun q H1 hP1 hD1 hS1 => ?_)
  refine va_callv (va_runIN (As := []) (rest := [.ref q, .int (Int32.ofInt (i : Int)), .ref kq, .ref kq]) (host := "BothCorners") ⟨hx, hb, hml, hown, hts⟩ (hM l q) ⟨va_cnB 0 hts (mm_gi (mm_gm (mm_lwI k8))) rfl rfl rfl (hN _ (mm_lwI k6) rfl) (ct_g hts k9 rfl) ⟨hne.1, hne.2, hnp⟩ hfl, hysn, ct_g hts k7 rfl⟩ ⟨fun a U g mk q => ⟨q.1, mm_Ns (s := U) (U := U.calling g mk a) rfl q.2⟩, fun U hU hW => ⟨rfl, mm_Nm hW hN⟩⟩ rfl rfl hls rfl (lv_room (Nat.le_of_ble_eq_true rfl)) (ct_isI k4) ⟨hcells, by show slots + 0 + 0 ≤ _; omega⟩) hS1 (fun q _ h => False.elim h) (fun q h => False.elim h) (fun u t H2 locs2 ht hvm hw hB hz1 hk1 hS2 => ?_)
  have hP2 : va_P D vwCl ((h0, e0) :: (kq, .inl (cW, 6, .inr (.inr (.inr (.inr f))))) :: (L ++ [(q, .inr (ci, []))])) H2 := hP1.kept (fun k x hx => hk1 x.1 ((hP1 k x hx).lt) (fun h => h))
  have hD2 : va_D A ((h0, e0) :: (kq, .inl (cW, 6, .inr (.inr (.inr (.inr f))))) :: (L ++ [(q, .inr (ci, []))])) := hD1
  have fin : ∀ (H3 : Heap) (locs3 : List Loc), va_P D vwCl (((h0, e0) :: (kq, .inl (cW, 6, .inr (.inr (.inr (.inr f))))) :: (L ++ [(q, .inr (ci, []))])).set 1 (kq, .inl (cW, 6, .inr (.inr (.inr (.inr (va_up f (Int32.ofInt (i : Int)).toNatClampNeg (some q)))))))) H3 → va_D A (((h0, e0) :: (kq, .inl (cW, 6, .inr (.inr (.inr (.inr f))))) :: (L ++ [(q, .inr (ci, []))])).set 1 (kq, .inl (cW, 6, .inr (.inr (.inr (.inr (va_up f (Int32.ofInt (i : Int)).toNatClampNeg (some q)))))))) → va_S A H0 H3 locs3 → W p l e R s m args below meth c H3 locs3 (cells + 1) slots Q (F0 m (pc + 2 + 4 + 3 + 1) ls [.ref kq]) := by
    intro H3 locs3 hP3 hD3 hS3
    rw [en] at hP3 hD3
    exact kk q H3 locs3 hP3 hD3 hS3
  rcases hca with hca | hca
  · subst hca
    exact va_astq (r := ("BothCorners$Way", T, 0)) (cA := cW) (ws := (h0, e0) :: (kq, .inl (cW, 6, .inr (.inr (.inr (.inr f))))) :: (L ++ [(q, .inr (ci, []))])) hx hb hK hP2 hD2 hS2 1 1 (L.length + 2) ci rfl rfl ct_wlst hcl hin (ct_isI k5) fin
  · exact va_astqO (r := (C, T, 0)) (cA := cW) (E := "BothCorners$Way") (ws := (h0, e0) :: (kq, .inl (cW, 6, .inr (.inr (.inr (.inr f))))) :: (L ++ [(q, .inr (ci, []))])) hx hb hK hP2 hD2 hS2 1 1 (L.length + 2) ci rfl rfl hca ct_wlst hcl hin (ct_isI k5) fin
end CTN
