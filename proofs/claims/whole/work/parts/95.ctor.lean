-- constructors: the classes
def stX4 : List CtS := [(0, 0, 96, 9, 199, 2), (1, 1, 0, 15, 200, 1)]
def stX0 : List CtS := [(0, 0, 8, 9, 213, 2), (0, 1, 8, 15, 214, 2), (0, 2, 8, 18, 215, 2), (1, 3, 0, 21, 216, 1)]
def stX5 : List CtS := [(0, 0, 48, 11, 233, 2), (0, 1, 48, 15, 234, 2), (0, 2, 48, 18, 235, 2), (0, 3, 48, 21, 236, 2), (1, 4, 0, 24, 237, 1)]
def stX12 : List CtS := [(0, 1, 24, 7, 971, 2), (0, 3, 4, 13, 973, 1), (0, 4, 4, 16, 974, 1), (0, 6, 6, 19, 976, 2), (0, 7, 6, 22, 977, 2), (2, 8, 0, 25, 978, 0), (0, 11, 7, 28, 981, 2), (0, 12, 4, 31, 982, 1), (0, 14, 96, 34, 984, 2), (0, 19, 49, 37, 989, 2), (0, 20, 49, 40, 990, 2), (0, 21, 490, 43, 991, 3), (0, 22, 52, 46, 992, 2), (0, 23, 52, 49, 993, 2), (0, 28, 416, 52, 998, 3), (0, 29, 52, 55, 999, 2), (0, 31, 6, 58, 1001, 2), (0, 32, 4, 61, 1002, 1), (0, 33, 12, 64, 1003, 2), (0, 35, 512, 67, 1005, 3), (0, 36, 512, 70, 1006, 3), (1, 10, 0, 73, 980, 1)]
def stX3 : List CtS := [(0, 1, 6, 9, 145, 2), (0, 2, 6, 15, 147, 2), (0, 3, 4, 18, 150, 1), (0, 4, 4, 21, 152, 1), (0, 5, 6, 24, 155, 2), (0, 6, 6, 27, 157, 2), (1, 7, 0, 30, 159, 1), (1, 8, 0, 34, 161, 1), (1, 9, 0, 37, 163, 1), (1, 10, 228, 42, 165, 3)]
def stX7 : List CtS := [(0, 1, 6, 16, 259, 2), (0, 2, 6, 20, 261, 2), (0, 3, 4, 23, 263, 1), (0, 4, 6, 26, 264, 2), (0, 5, 6, 29, 265, 2), (1, 6, 0, 32, 266, 1), (1, 7, 0, 36, 267, 1), (1, 8, 0, 39, 268, 1)]
def stX11 : List CtS := [(0, 7, 12, 70, 295, 2), (0, 8, 7, 74, 296, 2), (1, 9, 0, 77, 297, 1), (1, 10, 0, 81, 298, 1)]
abbrev f0X4 : List Value := [.null, .int 0]
set_option maxRecDepth 100000 in
theorem k_X4 : ct_cc cX4_init 4 RX4 stX4 3 198 = true := by decide +kernel
theorem c_X4 (l : Launch) (D : va_G) (c0 : ClassId) (h0 sz : Nat) : ct_Met yX4_init cX4_init 4 stX4 f0X4 l D c0 h0 sz := ct_met (C := RX4) (T := TX4) (N := 2) rfl rfl rfl (by decide) rfl k_X4 l D c0 h0 sz
abbrev f0X0 : List Value := [.null, .null, .null, .int 0]
set_option maxRecDepth 100000 in
theorem k_X0 : ct_cc cX0_init 0 RX0 stX0 3 212 = true := by decide +kernel
theorem c_X0 (l : Launch) (D : va_G) (c0 : ClassId) (h0 sz : Nat) : ct_Met yX0_init cX0_init 0 stX0 f0X0 l D c0 h0 sz := ct_met (C := RX0) (T := TX0) (N := 4) rfl rfl rfl (by decide) rfl k_X0 l D c0 h0 sz
abbrev f0X5 : List Value := [.null, .null, .null, .null, .int 0]
set_option maxRecDepth 100000 in
theorem k_X5 : ct_cc cX5_init 5 RX5 stX5 3 232 = true := by decide +kernel
theorem c_X5 (l : Launch) (D : va_G) (c0 : ClassId) (h0 sz : Nat) : ct_Met yX5_init cX5_init 5 stX5 f0X5 l D c0 h0 sz := ct_met (C := RX5) (T := TX5) (N := 5) rfl rfl rfl (by decide) rfl k_X5 l D c0 h0 sz
abbrev f0X12 : List Value := [.int 0, .null, .int 0, .null, .null, .int 0, .null, .null, .null, .int 0, .int 0, .null, .null, .int 0, .null, .int 0, .int 0, .int 0, .int 0, .null, .null, .null, .null, .null, .int 0, .int 0, .int 0, .null, .null, .null, .int 0, .null, .null, .null, .int 0, .null, .null, .int 0]
set_option maxRecDepth 100000 in
theorem k_X12 : ct_cc cX12_init 12 RX12 stX12 1 969 = true := by decide +kernel
theorem c_X12 (l : Launch) (D : va_G) (c0 : ClassId) (h0 sz : Nat) : ct_Met yX12_init cX12_init 12 stX12 f0X12 l D c0 h0 sz := ct_met (C := RX12) (T := TX12) (N := 38) rfl rfl rfl (by decide) rfl k_X12 l D c0 h0 sz
theorem ct_fs_len : ∀ (steps : List CtS) (fs : List Value) (qs : List Nat), (ct_fs steps fs qs).length = fs.length
  | [], _, _ => rfl
  | (0, k, n, ix, w, pl) :: r, fs, [] => rfl
  | (0, k, n, ix, w, pl) :: r, fs, q :: qs => by
    show (ct_fs r (fs.set k (.ref q)) qs).length = _
    rw [ct_fs_len r, List.length_set]
  | (1, k, n, ix, w, pl) :: r, fs, qs => by
    show (ct_fs r (fs.set k (.int (Int32.ofInt (n : Int)))) qs).length = _
    rw [ct_fs_len r, List.length_set]
  | (kd + 2, k, n, ix, w, pl) :: r, fs, [] => rfl
  | (kd + 2, k, n, ix, w, pl) :: r, fs, q :: qs => by
    show (ct_fs r (fs.set k (.ref q)) qs).length = _
    rw [ct_fs_len r, List.length_set]
abbrev f0X3 : List Value := [.null, .null, .null, .null, .null, .null, .null, .int 0, .int 0, .int 0, .int 0]
set_option maxRecDepth 100000 in
theorem k_X3 : (ct_is cX3_init 0 (.aload_n 0) 1 && ct_is cX3_init 1 (.invokespecial 3) 3 && mm_lw 143 (.methodLink RX3 3 Lib.objectInit) && ct_ck cX3_init 3 stX3 4 && ct_is cX3_init 72 (.aload_n 0) 1 && ct_is cX3_init 73 (.aload_n 1) 1 && ct_is cX3_init 74 (.putfield 45) 3 && ct_f 3 0 45 144 true (.array (.object "BothCorners$Way")) && ct_is cX3_init 77 .return_ 1) = true := by decide +kernel
abbrev ct_W3 (c0 : ClassId) (h0 q1 : Nat) (qs : List Nat) : va_W := (h0, .inr (3, (ct_fs stX3 f0X3 qs).set 0 (.ref q1))) :: ct_ar c0 stX3 qs
theorem c_X3 (l : Launch) (D : va_G) (c0 : ClassId) (h0 q1 sz : Nat) :
    Met l yX3_init (.code yX3_init cX3_init 2 none :: lw_g) ({ frames := 1, cells := ct_n stX3, slots := ct_s stX3, locals := 12 }) (va_Pc [.ref h0, .ref q1] (fun U => U.heap.size = sz ∧ va_P D vwCl [(h0, .inr (3, f0X3))] U.heap ∧ va_K D vwCl [(c0, .int)] U ∧ va_D (fun _ => True) [(h0, .inr (3, f0X3))]))
      (va_Qv (fun qs : List Nat => qs.length = ct_n stX3) (fun qs t => va_P D vwCl (ct_W3 c0 h0 q1 qs) t.heap ∧ va_K D vwCl [(c0, .int)] t ∧ va_D (va_A [(h0, .inr (3, f0X3))] sz) (ct_W3 c0 h0 q1 qs)) (va_A [(h0, .inr (3, f0X3))] sz)) (ct_n stX3) (ct_s stX3) (va_A [(h0, .inr (3, f0X3))] sz) := by
  have hck := k_X3
  rw [Bool.and_eq_true, Bool.and_eq_true, Bool.and_eq_true, Bool.and_eq_true, Bool.and_eq_true, Bool.and_eq_true, Bool.and_eq_true, Bool.and_eq_true] at hck
  obtain ⟨⟨⟨⟨⟨⟨⟨⟨k1, k2⟩, k3⟩, k4⟩, k5⟩, k6⟩, k7⟩, k8⟩, k9⟩ := hck
  have hcl : vwCl[3]? = some (RX3, TX3, 11) := rfl
  refine Met.ofW (cc := cX3_init) (maxL := 2) (ret := none) (by decide) rfl ?_
  intro p e s m args below meth c s₁ B hml hv
  obtain ⟨rfl, hsz, hP, hK, hD0⟩ := hv
  have hx := B.exec
  have hb := B.bytes
  have hr := B.returns
  have hts : ∀ w ∈ lw_g, w.before _ s = true := fun w hw => atoms_spec (ws := .code yX3_init cX3_init 2 none :: lw_g) B.pre w (List.mem_cons_of_mem _ hw)
  have hown : s.vm.findClass RX3 = some m.cls := findClass_of_methodNamed B.named
  have hlocks := B.notSynchronized
  have hin : meth.name = "<init>" := (name_of_methodNamed B.named B.method).1
  subst hsz
  have hD := hD0.self (sz := s.heap.size)
  generalize hAe : va_A [(h0, .inr (3, f0X3))] s.heap.size = A at hD ⊢
  have hA : ∀ q : Nat, s.heap.size ≤ q → A q := fun q h => by rw [← hAe]; exact Or.inr h
  have hS : va_S A s.heap s.heap [] := va_S.rf
  have hl := lv_entry ([.ref h0, .ref q1]) (n := 2) (Nat.le_of_ble_eq_true rfl)
  rw [lg_entry_eq]
  generalize (lg_sl ([.ref h0, .ref q1]) ++ List.replicate (2 - (lg_sl ([.ref h0, .ref q1])).length) Slot.unset).toArray = ls at hl ⊢
  have hl : lv_has ls 2 [(0, .ref h0), (1, .ref q1)] := hl
  have hl0 := lv_at hl 0 rfl
  refine lv_aload_n hx hb (ct_isI k1) rfl hl0 ?_
  refine W.objInit hx hb hown (ct_g hts k3 rfl) (ct_g hts ct_w1.1 rfl) (ct_g hts ct_w1.2.1 rfl) rfl (by rw [hml]; exact hl.1) rfl (ct_isI k2) (Nat.le_of_ble_eq_true rfl) (Nat.le_of_ble_eq_true rfl) ?_
  refine W.eq (g2 := F0 m 4 ls []) rfl ?_
  refine ct_go hcl hx hb hts hown hin (ct_g hts ct_w1.2.2 rfl) hK hK hA hl0 stX3 4 f0X3 [] s.heap [] 0 0 k4 rfl hP hD hS (by show 0 + ct_n stX3 ≤ ct_n stX3; omega) (by show 0 + ct_s stX3 ≤ ct_s stX3; omega) (fun H1 locs1 qs hq hP1 hD1 hS1 => ?_)
  rw [Nat.zero_add, Nat.zero_add]
  rw [List.nil_append] at hP1 hD1
  refine W.eq (g2 := F0 m 72 ls []) rfl ?_
  refine lv_aload_n hx hb (ct_isI k5) rfl hl0 ?_
  refine lv_aload_n hx hb (ct_isI k6) rfl (lv_at hl 1 rfl) ?_
  refine ct_putq hcl hx hb hts hown hin hK k8 (by rw [ct_fs_len]; rfl) rfl rfl hP1 hD1 hS1 (ct_isI k7) (fun H2 locs2 hP2 hD2 hS2 => ?_)
  exact W.vret hx hb hr (fun t ht hW => ⟨⟨qs, rfl, hq, by rw [ht]; exact hP2, va_K.moved hW.alike hK, hD2⟩, hS2.F ht⟩) hS2.2.2 (ct_isI k9)
abbrev f0X7 : List Value := [.null, .null, .null, .null, .null, .null, .int 0, .int 0, .int 0]
set_option maxRecDepth 100000 in
theorem k_X7 : (ct_is cX7_init 0 (.aload_n 0) 1 && ct_is cX7_init 1 (.invokespecial 3) 3 && mm_lw 254 (.methodLink RX7 3 Lib.objectInit) && ct_is cX7_init 4 (.aload_n 0) 1 && ct_is cX7_init 5 (.bipush 6) 2 && ct_is cX7_init 7 (.bipush 6) 2 && ct_is cX7_init 9 (.multianewarray 9 2) 4 && ct_is cX7_init 13 (.putfield 11) 3 && ct_f 7 0 11 257 true (.array (.array .int)) && ct_ck cX7_init 7 stX7 16 && ct_is cX7_init 70 .return_ 1 && mm_lw 255 (.classLink RX7 9 ("[" ++ (FieldType.array .int).toString)) && mm_lw 256 (.arrayOver (.array .int))) = true := by decide +kernel
def ct_rw (c0 : ClassId) (r : Nat → Nat) : va_W := ((List.range 6).map r).map (fun a => (a, .inl (c0, 6, .inl (fun _ => 0))))
abbrev ct_W7 (c0 cA : ClassId) (h0 q : Nat) (r : Nat → Nat) (qs : List Nat) : va_W := (h0, .inr (7, ct_fs stX7 (f0X7.set 0 (.ref q)) qs)) :: (((q, .inl (cA, 6, .inr (.inr (.inr (.inr (fun i => if i < 6 then some (r i) else none)))))) :: ct_rw c0 r) ++ ct_ar c0 stX7 qs)
theorem c_X7 (l : Launch) (D : va_G) (c0 : ClassId) (h0 sz : Nat) :
    Met l yX7_init (.code yX7_init cX7_init 1 none :: lw_g) ({ frames := 1, cells := 7 + ct_n stX7, slots := 42 + ct_s stX7, locals := 12 }) (va_Pc [.ref h0] (fun U => U.heap.size = sz ∧ va_P D vwCl [(h0, .inr (7, f0X7))] U.heap ∧ va_K D vwCl [(c0, .int)] U ∧ va_D (fun _ => True) [(h0, .inr (7, f0X7))] ∧ va_AOA .int U))
      (va_Qv (fun u : ClassId × Nat × (Nat → Nat) × List Nat => u.2.2.2.length = ct_n stX7) (fun u t => va_P D vwCl (ct_W7 c0 u.1 h0 u.2.1 u.2.2.1 u.2.2.2) t.heap ∧ va_K D vwCl [(c0, .int), (u.1, .array .int)] t ∧ va_D (va_A [(h0, .inr (7, f0X7))] sz) (ct_W7 c0 u.1 h0 u.2.1 u.2.2.1 u.2.2.2)) (va_A [(h0, .inr (7, f0X7))] sz)) (7 + ct_n stX7) (42 + ct_s stX7) (va_A [(h0, .inr (7, f0X7))] sz) := by
  have hck := k_X7
  rw [Bool.and_eq_true, Bool.and_eq_true, Bool.and_eq_true, Bool.and_eq_true, Bool.and_eq_true, Bool.and_eq_true, Bool.and_eq_true, Bool.and_eq_true, Bool.and_eq_true, Bool.and_eq_true, Bool.and_eq_true, Bool.and_eq_true] at hck
  obtain ⟨⟨⟨⟨⟨⟨⟨⟨⟨⟨⟨⟨k1, k2⟩, k3⟩, k4⟩, k5⟩, k6⟩, k7⟩, k8⟩, k9⟩, k10⟩, k11⟩, k12⟩, k13⟩ := hck
  have hcl : vwCl[7]? = some (RX7, TX7, 9) := rfl
  refine Met.ofW (cc := cX7_init) (maxL := 1) (ret := none) (by decide) rfl ?_
  intro p e s m args below meth c s₁ B hml hv
  obtain ⟨rfl, hsz, hP, hK, hD0, hAO⟩ := hv
  have hx := B.exec
  have hb := B.bytes
  have hr := B.returns
  have hts : ∀ w ∈ lw_g, w.before _ s = true := fun w hw => atoms_spec (ws := .code yX7_init cX7_init 1 none :: lw_g) B.pre w (List.mem_cons_of_mem _ hw)
  have hown : s.vm.findClass RX7 = some m.cls := findClass_of_methodNamed B.named
  have hlocks := B.notSynchronized
  have hin : meth.name = "<init>" := (name_of_methodNamed B.named B.method).1
  subst hsz
  have hD := hD0.self (sz := s.heap.size)
  generalize hAe : va_A [(h0, .inr (7, f0X7))] s.heap.size = A at hD ⊢
  have hA : ∀ q : Nat, s.heap.size ≤ q → A q := fun q h => by rw [← hAe]; exact Or.inr h
  have hS : va_S A s.heap s.heap [] := va_S.rf
  have hl := lv_entry ([.ref h0]) (n := 1) (Nat.le_of_ble_eq_true rfl)
  rw [lg_entry_eq]
  generalize (lg_sl ([.ref h0]) ++ List.replicate (1 - (lg_sl ([.ref h0])).length) Slot.unset).toArray = ls at hl ⊢
  have hl : lv_has ls 1 [(0, .ref h0)] := hl
  have hl0 := lv_at hl 0 rfl
  refine lv_aload_n hx hb (ct_isI k1) rfl hl0 ?_
  refine W.objInit hx hb hown (ct_g hts k3 rfl) (ct_g hts ct_w1.1 rfl) (ct_g hts ct_w1.2.1 rfl) rfl (by rw [hml]; exact hl.1) rfl (ct_isI k2) (Nat.le_of_ble_eq_true rfl) (Nat.le_of_ble_eq_true rfl) ?_
  refine W.eq (g2 := F0 m 4 ls []) rfl ?_
  refine lv_aload_n hx hb (ct_isI k4) rfl hl0 ?_
  refine lv_bipush (v := 6) hx hb (ct_isI k5) (by decide) ?_
  refine lv_bipush (v := 6) hx hb (ct_isI k6) (by decide) ?_
  have c0n : s.vm.findClass ("[" ++ FieldType.int.toString) = some c0 := (hK.2 0 _ rfl).2
  refine va_mna (X := [(h0, .inr (7, f0X7))]) (L := []) (f := fun _ => .inr (0, [])) (ty := .int) (cy := c0) (N' := 6) (K' := 6) (z := (6, .inl (fun _ => 0))) hx hb hown (ct_g hts k12 rfl) hAO (ct_g hts ct_w1.2.2 rfl) c0n hK hP hD hS hA (by decide) (by decide) (by decide) (by decide) (Nat.le_of_ble_eq_true rfl) (Nat.le_of_ble_eq_true rfl) (Nat.le_of_ble_eq_true rfl) rfl rfl (by show 0 + (1 + 6) ≤ 7 + ct_n stX7; omega) (by show 0 + (6 + 6 * 6) ≤ 42 + ct_s stX7; omega) (fun cA => by rw [vp_cell_i, ← arrV_new]; rfl) (ct_isI k7) (fun q r cA H1 hr1 hr2 hK1 hP1 hD1 hS1 => ?_)
  rw [← vr_rows (fun a _ => List.not_mem_nil)] at hP1 hD1
  have hP1 : va_P D vwCl ((h0, .inr (7, f0X7)) :: ((q, .inl (cA, 6, .inr (.inr (.inr (.inr (fun i => if i < 6 then some (r i) else none)))))) :: ct_rw c0 r)) H1 := hP1
  have hD1 : va_D A ((h0, .inr (7, f0X7)) :: ((q, .inl (cA, 6, .inr (.inr (.inr (.inr (fun i => if i < 6 then some (r i) else none)))))) :: ct_rw c0 r)) := hD1
  have hK1 : va_K D vwCl [(c0, .int), (cA, .array .int)] s := hK1
  refine ct_putq hcl hx hb hts hown hin hK k9 rfl rfl rfl hP1 hD1 hS1 (ct_isI k8) (fun H2 locs2 hP2 hD2 hS2 => ?_)
  refine ct_go hcl hx hb hts hown hin (ct_g hts ct_w1.2.2 rfl) hK hK hA hl0 stX7 16 (f0X7.set 0 (.ref q)) _ H2 locs2 (0 + 1 + 6) (0 + 6 + 6 * 6) k10 rfl hP2 hD2 hS2 (by show 0 + 1 + 6 + ct_n stX7 ≤ 7 + ct_n stX7; omega) (by show 0 + 6 + 6 * 6 + ct_s stX7 ≤ 42 + ct_s stX7; omega) (fun H3 locs3 qs hq hP3 hD3 hS3 => ?_)
  exact W.vret hx hb hr (fun t ht hW => ⟨⟨(cA, q, r, qs), rfl, hq, by rw [ht]; exact hP3, va_K.moved hW.alike hK1, hD3⟩, hS3.F ht⟩) hS3.2.2 (ct_isI k11)
