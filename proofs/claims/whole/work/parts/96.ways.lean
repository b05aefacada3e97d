-- constructors: the ways
abbrev ct_Q0 : Array Value → State → Outcome → State → Prop := va_Qv (fun _ : Unit => True) (fun _ _ => True) (fun _ => False)
abbrev ct_M0 (l : Launch) (y : MethodName) (cc : ByteArray) (fr lc h0 : Nat) : Prop := Met l y (.code y cc 1 none :: lw_g) ({ frames := fr, cells := 0, slots := 0, locals := lc }) (va_Pc [.ref h0] (fun U => mm_Nst U)) ct_Q0 0 0 (fun _ => False)
set_option maxRecDepth 100000 in
theorem k_X10 : (ct_is cX10_init 0 (.aload_n 0) 1 && ct_is cX10_init 1 (.invokespecial 1) 3 && mm_lw 101 (.methodLink RX10 1 Lib.objectInit) && ct_is cX10_init 4 .return_ 1) = true := by decide +kernel
theorem c_X10 (l : Launch) (h0 : Nat) : ct_M0 l yX10_init cX10_init 1 12 h0 := by
  have hck := k_X10
  rw [Bool.and_eq_true, Bool.and_eq_true, Bool.and_eq_true] at hck
  obtain ⟨⟨⟨k1, k2⟩, k3⟩, k5⟩ := hck
  refine Met.ofW (cc := cX10_init) (maxL := 1) (ret := none) (by decide) rfl ?_
  intro p e s m args below meth c s₁ B hml hv
  obtain ⟨rfl, -⟩ := hv
  have hx := B.exec
  have hb := B.bytes
  have hr := B.returns
  have hts : ∀ w ∈ lw_g, w.before _ s = true := fun w hw => atoms_spec (ws := .code yX10_init cX10_init 1 none :: lw_g) B.pre w (List.mem_cons_of_mem _ hw)
  have hown : s.vm.findClass RX10 = some m.cls := findClass_of_methodNamed B.named
  have hlocks := B.notSynchronized
  have hS : va_S (fun _ => False) s.heap s.heap [] := va_S.rf
  have hl := lv_entry ([.ref h0]) (n := 1) (Nat.le_of_ble_eq_true rfl)
  rw [lg_entry_eq]
  generalize (lg_sl ([.ref h0]) ++ List.replicate (1 - (lg_sl ([.ref h0])).length) Slot.unset).toArray = ls at hl ⊢
  have hl : lv_has ls 1 [(0, .ref h0)] := hl
  refine lv_aload_n hx hb (ct_isI k1) rfl (lv_at hl 0 rfl) ?_
  refine W.objInit hx hb hown (ct_g hts k3 rfl) (ct_g hts ct_w1.1 rfl) (ct_g hts ct_w1.2.1 rfl) rfl (by rw [hml]; exact hl.1) rfl (ct_isI k2) (Nat.le_of_ble_eq_true rfl) (Nat.le_of_ble_eq_true rfl) ?_
  refine W.eq (g2 := F0 m 4 ls []) rfl ?_
  exact W.vret hx hb hr (fun t ht hW => ⟨⟨(), rfl, trivial, trivial⟩, hS.F ht⟩) (fun q hq => absurd hq List.not_mem_nil) (ct_isI k5)
theorem ct_sup {y ys : MethodName} {cc cs : ByteArray} {C Cs host : String} {w1 w2 w3 w4 fr lc : Nat} (hy : y.cls = C) (hpn : plainName y.cls = true) (hys : ys.cls = Cs) (hysn : ys.name = "<init>") (hne : ys.cls ≠ "java/lang/invoke/MethodHandle" ∧ ys.cls ≠ "java/lang/invoke/VarHandle") (hnp : (parseMethodDescriptor ys.desc).map (fun d => d.parameters.length) = some 0)
    (hck : (ct_is cc 0 (.aload_n 0) 1 && ct_is cc 1 (.invokespecial 1) 3 && ct_is cc 4 .return_ 1 && mm_lw w1 (.methodLinkNest C 1 ys host) && mm_lw w2 (.instanceMethod ys) && mm_lw w3 (.initialized ys.cls) && mm_lw w4 (.code ys cs 1 none)) = true) (l : Launch) (h0 : Nat) (hsup : ct_M0 l ys cs fr lc h0) : ct_M0 l y cc (fr + 1) (20 + lc) h0 := by
  rw [Bool.and_eq_true, Bool.and_eq_true, Bool.and_eq_true, Bool.and_eq_true, Bool.and_eq_true, Bool.and_eq_true] at hck
  obtain ⟨⟨⟨⟨⟨⟨k1, k2⟩, k3⟩, k4⟩, k5⟩, k6⟩, k7⟩ := hck
  refine Met.ofW (cc := cc) (maxL := 1) (ret := none) hpn rfl ?_
  intro p e s m args below meth c s₁ B hml hv
  obtain ⟨rfl, hN⟩ := hv
  have hx := B.exec
  have hb := B.bytes
  have hr := B.returns
  have hts : ∀ w ∈ lw_g, w.before _ s = true := fun w hw => atoms_spec (ws := .code y cc 1 none :: lw_g) B.pre w (List.mem_cons_of_mem _ hw)
  have hown : s.vm.findClass C = some m.cls := by rw [← hy]; exact findClass_of_methodNamed B.named
  have hlocks := B.notSynchronized
  have hS : va_S (fun _ => False) s.heap s.heap [] := va_S.rf
  have hl := lv_entry ([.ref h0]) (n := 1) (Nat.le_of_ble_eq_true rfl)
  rw [lg_entry_eq]
  generalize (lg_sl ([.ref h0]) ++ List.replicate (1 - (lg_sl ([.ref h0])).length) Slot.unset).toArray = ls at hl ⊢
  have hl : lv_has ls 1 [(0, .ref h0)] := hl
  refine lv_aload_n hx hb (ct_isI k1) rfl (lv_at hl 0 rfl) ?_
  refine va_callv (va_runIN (As := []) (rest := []) (host := host) ⟨hx, hb, hml, hown, hts⟩ hsup ⟨va_cnB 0 hts (mm_gi (mm_gm (mm_lwI k7))) rfl rfl rfl (hN _ (mm_lwI k4) rfl) (ct_g hts k6 rfl) ⟨hne.1, hne.2, hnp⟩ ⟨Nat.le_refl _, by show 8 + (1 + 11) + lc ≤ 20 + lc; omega⟩, hysn, ct_g hts k5 rfl⟩ ⟨fun a U g mk q => ⟨q.1, mm_Ns (s := U) (U := U.calling g mk a) rfl q.2⟩, fun U hU hW => ⟨rfl, mm_Nm hW hN⟩⟩ rfl rfl hl.1 rfl (lv_room (Nat.le_of_ble_eq_true rfl)) (ct_isI k2) ⟨Nat.le_refl _, Nat.le_refl _⟩) hS (fun q _ h => h) (fun q h => h) (fun u t H1 locs ht hvm hw hB hz1 hk1 hS => ?_)
  exact W.vret hx hb hr (fun t ht hW => ⟨⟨(), rfl, trivial, trivial⟩, hS.F ht⟩) hS.2.2 (ct_isI k3)
set_option maxRecDepth 100000 in
theorem k_X1 : (ct_is cX1_init 0 (.aload_n 0) 1 && ct_is cX1_init 1 (.invokespecial 1) 3 && ct_is cX1_init 4 .return_ 1 && mm_lw 108 (.methodLinkNest RX1 1 yX10_init "BothCorners") && mm_lw 99 (.instanceMethod yX10_init) && mm_lw 72 (.initialized yX10_init.cls) && mm_lw 100 (.code yX10_init cX10_init 1 none)) = true := by decide +kernel
theorem c_X1 (l : Launch) (h0 : Nat) : ct_M0 l yX1_init cX1_init 2 32 h0 := ct_sup (fr := 1) (lc := 12) (host := "BothCorners") (C := RX1) (Cs := RX10) rfl (by decide) rfl rfl ⟨by decide, by decide⟩ (by decide +kernel) k_X1 l h0 (c_X10 l h0)
set_option maxRecDepth 100000 in
theorem k_X9 : (ct_is cX9_init 0 (.aload_n 0) 1 && ct_is cX9_init 1 (.invokespecial 1) 3 && ct_is cX9_init 4 .return_ 1 && mm_lw 115 (.methodLinkNest RX9 1 yX10_init "BothCorners") && mm_lw 99 (.instanceMethod yX10_init) && mm_lw 72 (.initialized yX10_init.cls) && mm_lw 100 (.code yX10_init cX10_init 1 none)) = true := by decide +kernel
theorem c_X9 (l : Launch) (h0 : Nat) : ct_M0 l yX9_init cX9_init 2 32 h0 := ct_sup (fr := 1) (lc := 12) (host := "BothCorners") (C := RX9) (Cs := RX10) rfl (by decide) rfl rfl ⟨by decide, by decide⟩ (by decide +kernel) k_X9 l h0 (c_X10 l h0)
set_option maxRecDepth 100000 in
theorem k_X2 : (ct_is cX2_init 0 (.aload_n 0) 1 && ct_is cX2_init 1 (.invokespecial 1) 3 && ct_is cX2_init 4 .return_ 1 && mm_lw 129 (.methodLinkNest RX2 1 yX1_init "BothCorners") && mm_lw 106 (.instanceMethod yX1_init) && mm_lw 73 (.initialized yX1_init.cls) && mm_lw 107 (.code yX1_init cX1_init 1 none)) = true := by decide +kernel
theorem c_X2 (l : Launch) (h0 : Nat) : ct_M0 l yX2_init cX2_init 3 52 h0 := ct_sup (fr := 2) (lc := 32) (host := "BothCorners") (C := RX2) (Cs := RX1) rfl (by decide) rfl rfl ⟨by decide, by decide⟩ (by decide +kernel) k_X2 l h0 (c_X1 l h0)
set_option maxRecDepth 100000 in
theorem k_X6 : (ct_is cX6_init 0 (.aload_n 0) 1 && ct_is cX6_init 1 (.invokespecial 1) 3 && ct_is cX6_init 4 .return_ 1 && mm_lw 122 (.methodLinkNest RX6 1 yX9_init "BothCorners") && mm_lw 113 (.instanceMethod yX9_init) && mm_lw 74 (.initialized yX9_init.cls) && mm_lw 114 (.code yX9_init cX9_init 1 none)) = true := by decide +kernel
theorem c_X6 (l : Launch) (h0 : Nat) : ct_M0 l yX6_init cX6_init 3 52 h0 := ct_sup (fr := 2) (lc := 32) (host := "BothCorners") (C := RX6) (Cs := RX9) rfl (by decide) rfl rfl ⟨by decide, by decide⟩ (by decide +kernel) k_X6 l h0 (c_X9 l h0)
set_option maxRecDepth 100000 in
theorem k_X8 : (ct_is cX8_init 0 (.aload_n 0) 1 && ct_is cX8_init 1 (.invokespecial 1) 3 && ct_is cX8_init 4 .return_ 1 && mm_lw 136 (.methodLinkNest RX8 1 yX9_init "BothCorners") && mm_lw 113 (.instanceMethod yX9_init) && mm_lw 74 (.initialized yX9_init.cls) && mm_lw 114 (.code yX9_init cX9_init 1 none)) = true := by decide +kernel
theorem c_X8 (l : Launch) (h0 : Nat) : ct_M0 l yX8_init cX8_init 3 52 h0 := ct_sup (fr := 2) (lc := 32) (host := "BothCorners") (C := RX8) (Cs := RX9) rfl (by decide) rfl rfl ⟨by decide, by decide⟩ (by decide +kernel) k_X8 l h0 (c_X9 l h0)
