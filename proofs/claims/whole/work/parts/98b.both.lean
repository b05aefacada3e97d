-- constructors: BothCorners, its contract
abbrev f0X11 : List Value := [.null, .null, .null, .null, .null, .null, .null, .null, .null, .int 0, .int 0]
def ct_cy (c0 c1 c2 : ClassId) : Nat → ClassId := fun k => bif Nat.beq k 0 then c0 else bif Nat.beq k 1 then c1 else c2
/-- the heap that both sides begin with -/
def ct_h0 : MH := (fun k => bif Nat.beq k 61 then ct_ly else bif Nat.beq k 8 || Nat.beq k 15 || Nat.beq k 22 then (fun i => bif Nat.beq i 10 then Int32.ofInt ((228 : Nat) : Int) else 0) else (fun _ => 0), none)
abbrev ct_WC (c0 : ClassId) (u : ClassId × ClassId × (Nat → Nat)) : va_W := (List.range 55).map (fun k => (u.2.2 k, mm_ent (ct_cy c0 u.1 u.2.1) u.2.2 ct_h0 k))
theorem ct_ug {u : List Nat} {n : Nat} (h : u.length = n) : ∃ g : Nat → Nat, u = (List.range n).map g := by
  refine ⟨fun i => u.getD i 0, ?_⟩
  apply List.ext_getElem?
  intro i
  rw [List.getElem?_map]
  by_cases hi : i < n
  · rw [List.getElem?_range hi, List.getElem?_eq_getElem (show i < u.length by omega)]
    simp [List.getD, List.getElem?_eq_getElem (show i < u.length by omega)]
  · rw [List.getElem?_eq_none (show u.length ≤ i by omega), List.getElem?_eq_none (show (List.range n).length ≤ i by rw [List.length_range]; omega)]
    rfl
abbrev ct_ad (h0 kq w0 w1 w2 w3 w4 w5 q1 q2 q3 q4 q5 q6 q7 q8 : Nat) (g1 g2 g3 g4 g5 g6 g7 gR r : Nat → Nat) : Nat → Nat := fun k => ([h0, kq, w0, w1, w2, w3, w4, w5, q1, g1 0, g1 1, g1 2, g1 3, g1 4, g1 5, q2, g2 0, g2 1, g2 2, g2 3, g2 4, g2 5, q3, g3 0, g3 1, g3 2, g3 3, g3 4, g3 5, q4, g4 0, q5, g5 0, g5 1, g5 2, q6, g6 0, g6 1, g6 2, g6 3, q7, q8, r 0, r 1, r 2, r 3, r 4, r 5, g7 0, g7 1, g7 2, g7 3, g7 4, gR 0, gR 1] : List Nat).getD k 0
abbrev ct_raw (c0 cW cI : ClassId) (h0 kq w0 w1 w2 w3 w4 w5 q1 q2 q3 q4 q5 q6 q7 q8 : Nat) (g1 g2 g3 g4 g5 g6 g7 gR r : Nat → Nat) (fW fC : Nat → Option Nat) : va_W := ((h0, .inr (11, ct_fs stX11 (((((((f0X11.set 0 (.ref q1)).set 1 (.ref q2)).set 2 (.ref q3)).set 3 (.ref q4)).set 4 (.ref q5)).set 5 (.ref q6)).set 6 (.ref q7)) ((List.range 2).map gR))) :: ((((((((((kq, .inl (cW, 6, .inr (.inr (.inr (.inr fW))))) :: (((((([] ++ [(w0, .inr (10, []))]) ++ [(w1, .inr (1, []))]) ++ [(w2, .inr (9, []))]) ++ [(w3, .inr (6, []))]) ++ [(w4, .inr (2, []))]) ++ [(w5, .inr (8, []))])) ++ ct_W3 c0 q1 kq ((List.range 6).map g1)) ++ ct_W3 c0 q2 kq ((List.range 6).map g2)) ++ ct_W3 c0 q3 kq ((List.range 6).map g3)) ++ ct_W c0 4 q4 stX4 f0X4 ((List.range 1).map g4)) ++ ct_W c0 0 q5 stX0 f0X0 ((List.range 3).map g5)) ++ ct_W c0 5 q6 stX5 f0X5 ((List.range 4).map g6)) ++ ((q7, .inr (7, ct_fs stX7 (f0X7.set 0 (.ref q8)) ((List.range 5).map g7))) :: (((q8, .inl (cI, 6, .inr (.inr (.inr (.inr fC))))) :: ct_rw c0 r) ++ ct_ar c0 stX7 ((List.range 5).map g7)))) ++ ct_ar c0 stX11 ((List.range 2).map gR)) : va_W)
set_option maxRecDepth 100000 in
set_option maxHeartbeats 4000000 in
theorem ct_raw_eq (c0 cW cI : ClassId) (h0 kq w0 w1 w2 w3 w4 w5 q1 q2 q3 q4 q5 q6 q7 q8 : Nat) (g1 g2 g3 g4 g5 g6 g7 gR r : Nat → Nat) : ct_raw c0 cW cI h0 kq w0 w1 w2 w3 w4 w5 q1 q2 q3 q4 q5 q6 q7 q8 g1 g2 g3 g4 g5 g6 g7 gR r (fun i => (([some 2, some 3, some 4, some 5, some 6, some 7] : List (Option Nat)).getD i none).map (ct_ad h0 kq w0 w1 w2 w3 w4 w5 q1 q2 q3 q4 q5 q6 q7 q8 g1 g2 g3 g4 g5 g6 g7 gR r)) (fun i => (([some 42, some 43, some 44, some 45, some 46, some 47] : List (Option Nat)).getD i none).map (ct_ad h0 kq w0 w1 w2 w3 w4 w5 q1 q2 q3 q4 q5 q6 q7 q8 g1 g2 g3 g4 g5 g6 g7 gR r)) = ct_WC c0 (cW, cI, ct_ad h0 kq w0 w1 w2 w3 w4 w5 q1 q2 q3 q4 q5 q6 q7 q8 g1 g2 g3 g4 g5 g6 g7 gR r) := rfl
theorem ct_fW (h0 kq w0 w1 w2 w3 w4 w5 q1 q2 q3 q4 q5 q6 q7 q8 : Nat) (g1 g2 g3 g4 g5 g6 g7 gR r : Nat → Nat) : (va_up (va_up (va_up (va_up (va_up (va_up (fun _ => none) 0 (some w0)) 1 (some w1)) 2 (some w2)) 3 (some w3)) 4 (some w4)) 5 (some w5)) = fun i => (([some 2, some 3, some 4, some 5, some 6, some 7] : List (Option Nat)).getD i none).map (ct_ad h0 kq w0 w1 w2 w3 w4 w5 q1 q2 q3 q4 q5 q6 q7 q8 g1 g2 g3 g4 g5 g6 g7 gR r) := by
  funext i
  match i with
  | 0 => rfl
  | 1 => rfl
  | 2 => rfl
  | 3 => rfl
  | 4 => rfl
  | 5 => rfl
  | i + 6 => simp [va_up]
theorem ct_fC (h0 kq w0 w1 w2 w3 w4 w5 q1 q2 q3 q4 q5 q6 q7 q8 : Nat) (g1 g2 g3 g4 g5 g6 g7 gR r : Nat → Nat) : (fun i => if i < 6 then some (r i) else none) = fun i => (([some 42, some 43, some 44, some 45, some 46, some 47] : List (Option Nat)).getD i none).map (ct_ad h0 kq w0 w1 w2 w3 w4 w5 q1 q2 q3 q4 q5 q6 q7 q8 g1 g2 g3 g4 g5 g6 g7 gR r) := by
  funext i
  match i with
  | 0 => rfl
  | 1 => rfl
  | 2 => rfl
  | 3 => rfl
  | 4 => rfl
  | 5 => rfl
  | i + 6 => simp
set_option maxRecDepth 100000 in
theorem ct_kw0 : ct_wk 9 0 7 95 97 72 10 9 98 99 100 yX10_init cX10_init = true := by decide +kernel
set_option maxRecDepth 100000 in
theorem ct_kw1 : ct_wk 19 1 10 103 104 73 1 12 105 106 107 yX1_init cX1_init = true := by decide +kernel
set_option maxRecDepth 100000 in
theorem ct_kw2 : ct_wk 29 2 13 110 111 74 9 15 112 113 114 yX9_init cX9_init = true := by decide +kernel
set_option maxRecDepth 100000 in
theorem ct_kw3 : ct_wk 39 3 16 117 118 75 6 18 119 120 121 yX6_init cX6_init = true := by decide +kernel
set_option maxRecDepth 100000 in
theorem ct_kw4 : ct_wk 49 4 19 124 125 76 2 21 126 127 128 yX2_init cX2_init = true := by decide +kernel
set_option maxRecDepth 100000 in
theorem ct_kw5 : ct_wk 59 5 22 131 132 77 8 24 133 134 135 yX8_init cX8_init = true := by decide +kernel
set_option maxRecDepth 100000 in
theorem ct_kh0 : (ct_ck1 70 1 25 138 139 78 3 0 30 288 f0X3 (.object "BothCorners$House") && ct_is cX11_init (70 + 5) (.aload_n 1) 1 && ct_is cX11_init (70 + 6) (.invokespecial 27) 3) = true := by decide +kernel
set_option maxRecDepth 100000 in
theorem ct_kh1 : (ct_ck1 82 1 25 138 139 78 3 1 36 289 f0X3 (.object "BothCorners$House") && ct_is cX11_init (82 + 5) (.aload_n 1) 1 && ct_is cX11_init (82 + 6) (.invokespecial 27) 3) = true := by decide +kernel
set_option maxRecDepth 100000 in
theorem ct_kh2 : (ct_ck1 94 1 25 138 139 78 3 2 39 290 f0X3 (.object "BothCorners$House") && ct_is cX11_init (94 + 5) (.aload_n 1) 1 && ct_is cX11_init (94 + 6) (.invokespecial 27) 3) = true := by decide +kernel
set_option maxRecDepth 100000 in
theorem ct_kcX4 : (ct_ck1 106 0 42 193 194 79 4 3 45 291 f0X4 (.object "BothCorners$Letters") && ct_ck2 106 44 195 196 197 79 yX4_init cX4_init) = true := by decide +kernel
set_option maxRecDepth 100000 in
theorem ct_kcX0 : (ct_ck1 117 0 49 207 208 80 0 4 52 292 f0X0 (.object "BothCorners$Changes") && ct_ck2 117 51 209 210 211 80 yX0_init cX0_init) = true := by decide +kernel
set_option maxRecDepth 100000 in
theorem ct_kcX5 : (ct_ck1 128 0 56 227 228 81 5 5 59 293 f0X5 (.object "BothCorners$Lies") && ct_ck2 128 58 229 230 231 81 yX5_init cX5_init) = true := by decide +kernel
set_option maxRecDepth 100000 in
theorem ct_kcX7 : (ct_ck1 139 0 63 249 250 82 7 6 66 294 f0X7 (.object "BothCorners$Search") && ct_ck2 139 65 251 252 253 82 yX7_init cX7_init) = true := by decide +kernel
set_option maxRecDepth 100000 in
theorem ct_kX11 : (ct_is cX11_init 0 (.aload_n 0) 1 && ct_is cX11_init 1 (.invokespecial 1) 3 && mm_lw 92 (.methodLink RX11 1 Lib.objectInit) && ct_is cX11_init 4 (.bipush 6) 2 && ct_is cX11_init 6 (.anewarray 7) 3 && mm_lw 95 (.classLink RX11 7 "BothCorners$Way") && ct_is cX11_init 69 (.astore_n 1) 1 && ct_ck cX11_init 11 stX11 150 && ct_is cX11_init 176 .return_ 1) = true := by decide +kernel
abbrev rmX11 : Room := { frames := 4, cells := 54, slots := 556, locals := 72 }
abbrev e0X11 : va_E := .inr (11, f0X11)
set_option maxRecDepth 100000 in
set_option maxHeartbeats 4000000 in
theorem c_X11 (l : Launch) (D : va_G) (c0 : ClassId) (h0 sz : Nat) :
    Met l yX11_init (.code yX11_init cX11_init 2 none :: lw_g) rmX11 (va_Pc [.ref h0] (fun U => U.heap.size = sz ∧ va_P D vwCl [(h0, e0X11)] U.heap ∧ va_K D vwCl [(c0, .int)] U ∧ va_D (fun _ => True) [(h0, e0X11)] ∧ CtX U))
      (va_Qv (fun u : ClassId × ClassId × (Nat → Nat) => u.2.2 0 = h0) (fun u t => va_P D vwCl (ct_WC c0 u) t.heap ∧ va_K D vwCl [(c0, .int), (u.1, .object "BothCorners$Way"), (u.2.1, .array .int)] t ∧ va_D (va_A [(h0, e0X11)] sz) (ct_WC c0 u)) (va_A [(h0, e0X11)] sz)) 54 556 (va_A [(h0, e0X11)] sz) := by
  have hck := ct_kX11
  rw [Bool.and_eq_true, Bool.and_eq_true, Bool.and_eq_true, Bool.and_eq_true, Bool.and_eq_true, Bool.and_eq_true, Bool.and_eq_true, Bool.and_eq_true] at hck
  obtain ⟨⟨⟨⟨⟨⟨⟨⟨k1, k2⟩, k3⟩, k4⟩, k5⟩, k6⟩, k7⟩, k8⟩, k9⟩ := hck
  have hcl : vwCl[11]? = some (RX11, TX11, 11) := rfl
  refine Met.ofW (cc := cX11_init) (maxL := 2) (ret := none) (by decide) rfl ?_
  intro p e s m args below meth c s₁ B hml hv
  obtain ⟨rfl, hsz, hP, hK, hD0, hX⟩ := hv
  have hx := B.exec
  have hb := B.bytes
  have hr := B.returns
  have hts : ∀ w ∈ lw_g, w.before _ s = true := fun w hw => atoms_spec (ws := .code yX11_init cX11_init 2 none :: lw_g) B.pre w (List.mem_cons_of_mem _ hw)
  have hown : s.vm.findClass RX11 = some m.cls := findClass_of_methodNamed B.named
  have hlocks := B.notSynchronized
  have hin : meth.name = "<init>" := (name_of_methodNamed B.named B.method).1
  subst hsz
  have hD := hD0.self (sz := s.heap.size)
  generalize hAe : va_A [(h0, e0X11)] s.heap.size = A at hD ⊢
  have hA : ∀ q : Nat, s.heap.size ≤ q → A q := fun q h => by rw [← hAe]; exact Or.inr h
  have hS : va_S A s.heap s.heap [] := va_S.rf
  have hN := hX.1
  have hl := lv_entry ([.ref h0]) (n := 2) (Nat.le_of_ble_eq_true rfl)
  rw [lg_entry_eq]
  generalize (lg_sl ([.ref h0]) ++ List.replicate (2 - (lg_sl ([.ref h0])).length) Slot.unset).toArray = ls at hl ⊢
  have hl : lv_has ls 2 [(0, .ref h0)] := hl
  refine lv_aload_n hx hb (ct_isI k1) rfl (lv_at hl 0 rfl) ?_
  refine W.objInit hx hb hown (ct_g hts k3 rfl) (ct_g hts ct_w1.1 rfl) (ct_g hts ct_w1.2.1 rfl) rfl (by rw [hml]; exact hl.1) rfl (ct_isI k2) (Nat.le_of_ble_eq_true rfl) (Nat.le_of_ble_eq_true rfl) ?_
  refine W.eq (g2 := F0 m 4 ls []) rfl ?_
  refine lv_bipush (v := 6) hx hb (ct_isI k4) (by decide) ?_
  refine va_newq (N' := 6) hx hb hown (ct_g hts k6 rfl) hX.2.1 hK hP hD hS hA (by decide) (by decide) (Nat.le_of_ble_eq_true rfl) (Nat.le_of_ble_eq_true rfl) (Nat.le_of_ble_eq_true rfl) (ct_isI k5) (fun kq cW H hKW hP hD hS => ?_)
  have hKW : va_K D vwCl [(c0, .int), (cW, .object "BothCorners$Way")] s := hKW
  have hP : va_P D vwCl ((h0, e0X11) :: (kq, .inl (cW, 6, .inr (.inr (.inr (.inr (fun _ => none)))))) :: []) H := hP
  have hD : va_D A ((h0, e0X11) :: (kq, .inl (cW, 6, .inr (.inr (.inr (.inr (fun _ => none)))))) :: []) := hD
  refine W.eq (g2 := F0 m 9 ls [.ref kq]) rfl ?_
  refine ct_way (C := RX10) (T := TX10) rfl ct_kw0 c_X10 rfl ⟨by decide, by decide⟩ (by decide +kernel) ⟨Nat.le_of_ble_eq_true rfl, Nat.le_of_ble_eq_true rfl⟩ (Or.inl rfl) hx hb hml hl.1 hts hown hN hKW hA (Nat.le_of_ble_eq_true rfl) (Nat.le_of_ble_eq_true rfl) hP hD hS (fun w0 H locs hP hD hS => ?_)
  refine ct_way (C := RX1) (T := TX1) rfl ct_kw1 c_X1 rfl ⟨by decide, by decide⟩ (by decide +kernel) ⟨Nat.le_of_ble_eq_true rfl, Nat.le_of_ble_eq_true rfl⟩ (Or.inr (hX.2.2.2 _ (by decide))) hx hb hml hl.1 hts hown hN hKW hA (Nat.le_of_ble_eq_true rfl) (Nat.le_of_ble_eq_true rfl) hP hD hS (fun w1 H locs hP hD hS => ?_)
  refine ct_way (C := RX9) (T := TX9) rfl ct_kw2 c_X9 rfl ⟨by decide, by decide⟩ (by decide +kernel) ⟨Nat.le_of_ble_eq_true rfl, Nat.le_of_ble_eq_true rfl⟩ (Or.inr (hX.2.2.2 _ (by decide))) hx hb hml hl.1 hts hown hN hKW hA (Nat.le_of_ble_eq_true rfl) (Nat.le_of_ble_eq_true rfl) hP hD hS (fun w2 H locs hP hD hS => ?_)
  refine ct_way (C := RX6) (T := TX6) rfl ct_kw3 c_X6 rfl ⟨by decide, by decide⟩ (by decide +kernel) ⟨Nat.le_of_ble_eq_true rfl, Nat.le_of_ble_eq_true rfl⟩ (Or.inr (hX.2.2.2 _ (by decide))) hx hb hml hl.1 hts hown hN hKW hA (Nat.le_of_ble_eq_true rfl) (Nat.le_of_ble_eq_true rfl) hP hD hS (fun w3 H locs hP hD hS => ?_)
  refine ct_way (C := RX2) (T := TX2) rfl ct_kw4 c_X2 rfl ⟨by decide, by decide⟩ (by decide +kernel) ⟨Nat.le_of_ble_eq_true rfl, Nat.le_of_ble_eq_true rfl⟩ (Or.inr (hX.2.2.2 _ (by decide))) hx hb hml hl.1 hts hown hN hKW hA (Nat.le_of_ble_eq_true rfl) (Nat.le_of_ble_eq_true rfl) hP hD hS (fun w4 H locs hP hD hS => ?_)
  refine ct_way (C := RX8) (T := TX8) rfl ct_kw5 c_X8 rfl ⟨by decide, by decide⟩ (by decide +kernel) ⟨Nat.le_of_ble_eq_true rfl, Nat.le_of_ble_eq_true rfl⟩ (Or.inr (hX.2.2.2 _ (by decide))) hx hb hml hl.1 hts hown hN hKW hA (Nat.le_of_ble_eq_true rfl) (Nat.le_of_ble_eq_true rfl) hP hD hS (fun w5 H locs hP hD hS => ?_)
  refine lv_astore_n (lv' := [(1, .ref kq), (0, .ref h0)]) hx hb (ct_isI k7) rfl hl (by decide) rfl (fun ls hl => ?_)
  have hl0 := lv_at hl 1 rfl
  have hl1 := lv_at hl 0 rfl
  refine ct_cH ct_kh0 ⟨Nat.le_of_ble_eq_true rfl, Nat.le_of_ble_eq_true rfl⟩ hx hb hml hl.1 hts hown hin hl0 hl1 hK hA (by rfl) (fun _ => rfl) (fun _ => rfl) (Nat.le_of_ble_eq_true rfl) (Nat.le_of_ble_eq_true rfl) hP hD hS (fun q1 u1 H locs hu1 hP hD hS => ?_)
  refine ct_cH ct_kh1 ⟨Nat.le_of_ble_eq_true rfl, Nat.le_of_ble_eq_true rfl⟩ hx hb hml hl.1 hts hown hin hl0 hl1 hK hA (by rfl) (fun _ => rfl) (fun _ => rfl) (Nat.le_of_ble_eq_true rfl) (Nat.le_of_ble_eq_true rfl) hP hD hS (fun q2 u2 H locs hu2 hP hD hS => ?_)
  refine ct_cH ct_kh2 ⟨Nat.le_of_ble_eq_true rfl, Nat.le_of_ble_eq_true rfl⟩ hx hb hml hl.1 hts hown hin hl0 hl1 hK hA (by rfl) (fun _ => rfl) (fun _ => rfl) (Nat.le_of_ble_eq_true rfl) (Nat.le_of_ble_eq_true rfl) hP hD hS (fun q3 u3 H locs hu3 hP hD hS => ?_)
  refine ct_cM (C := RX4) (T := TX4) rfl ((Bool.and_eq_true _ _).mp ct_kcX4).1 ((Bool.and_eq_true _ _).mp ct_kcX4).2 c_X4 rfl ⟨by decide, by decide⟩ (by decide +kernel) ⟨Nat.le_of_ble_eq_true rfl, Nat.le_of_ble_eq_true rfl⟩ hx hb hml hl.1 hts hown hN hin hl0 hK hA (by rfl) (fun _ => rfl) (fun _ => rfl) (Nat.le_of_ble_eq_true rfl) (Nat.le_of_ble_eq_true rfl) hP hD hS (fun q4 u4 H locs hu4 hP hD hS => ?_)
  refine ct_cM (C := RX0) (T := TX0) rfl ((Bool.and_eq_true _ _).mp ct_kcX0).1 ((Bool.and_eq_true _ _).mp ct_kcX0).2 c_X0 rfl ⟨by decide, by decide⟩ (by decide +kernel) ⟨Nat.le_of_ble_eq_true rfl, Nat.le_of_ble_eq_true rfl⟩ hx hb hml hl.1 hts hown hN hin hl0 hK hA (by rfl) (fun _ => rfl) (fun _ => rfl) (Nat.le_of_ble_eq_true rfl) (Nat.le_of_ble_eq_true rfl) hP hD hS (fun q5 u5 H locs hu5 hP hD hS => ?_)
  refine ct_cM (C := RX5) (T := TX5) rfl ((Bool.and_eq_true _ _).mp ct_kcX5).1 ((Bool.and_eq_true _ _).mp ct_kcX5).2 c_X5 rfl ⟨by decide, by decide⟩ (by decide +kernel) ⟨Nat.le_of_ble_eq_true rfl, Nat.le_of_ble_eq_true rfl⟩ hx hb hml hl.1 hts hown hN hin hl0 hK hA (by rfl) (fun _ => rfl) (fun _ => rfl) (Nat.le_of_ble_eq_true rfl) (Nat.le_of_ble_eq_true rfl) hP hD hS (fun q6 u6 H locs hu6 hP hD hS => ?_)
  have j0 := ((Bool.and_eq_true _ _).mp ct_kcX7).2
  unfold ct_ck2 at j0
  rw [Bool.and_eq_true, Bool.and_eq_true, Bool.and_eq_true, Bool.and_eq_true] at j0
  obtain ⟨⟨⟨⟨j1, j2⟩, j3⟩, j4⟩, j5⟩ := j0
  refine ct_comp (pc := 139) (C := RX7) (T := TX7) (pl := 0) (As := []) (mc := 7 + ct_n stX7) (ms := 42 + ct_s stX7) (post := fun u : ClassId × Nat × (Nat → Nat) × List Nat => u.2.2.2.length = ct_n stX7) (B := fun q sz u t => va_P D vwCl (ct_W7 c0 u.1 q u.2.1 u.2.2.1 u.2.2.2) t.heap ∧ va_K D vwCl [(c0, .int), (u.1, .array .int)] t ∧ va_D (va_A [(q, .inr (7, f0X7))] sz) (ct_W7 c0 u.1 q u.2.1 u.2.2.1 u.2.2.2)) (Wf := fun q u => ct_W7 c0 u.1 q u.2.1 u.2.2.1 u.2.2.2) (ty1 := fun u => [(c0, .int), (u.1, .array .int)]) (aa := fun q => #[.ref q]) rfl ((Bool.and_eq_true _ _).mp ct_kcX7).1 hx hb hts hown hin hl0 hK hA (by rfl) (fun _ => rfl) (fun _ => rfl) (Nat.le_of_ble_eq_true rfl) (Nat.le_of_ble_eq_true rfl) (fun q H1 k => k) (fun q H1 hPc hDc => ?_) (fun q sz u t h => h) hP hD hS (fun q7 u7 H locs hu7 hP hD hKI hS => ?_)
  · exact va_runIN (As := []) (rest := [.ref q, .ref h0]) (host := "BothCorners") ⟨hx, hb, hml, hown, hts⟩ (c_X7 l D c0 q H1.size) ⟨va_cnB 0 hts (mm_gi (mm_gm (mm_lwI j4))) rfl rfl rfl (hN _ (mm_lwI j2) rfl) (ct_g hts j5 rfl) ⟨by decide, by decide, by decide +kernel⟩ ⟨Nat.le_of_ble_eq_true rfl, Nat.le_of_ble_eq_true rfl⟩, rfl, ct_g hts j3 rfl⟩ ⟨fun a U g mk q => by obtain ⟨q0, q1, qP, qK, qD, qA⟩ := q; exact ⟨q0, q1, qP, va_K.moved (u := U) (U := U.calling g mk a) (Vm.Alike.refl U.vm) qK, qD, va_AOA.moved (u := U) (U := U.calling g mk a) (Vm.Alike.refl U.vm) qA⟩, fun U hU hW => ⟨rfl, by rw [hU], by rw [hU]; exact hPc, va_K.moved hW.alike hK, hDc, va_AOA.moved hW.alike hX.2.2.1⟩⟩ rfl rfl hl.1 rfl (lv_room (Nat.le_of_ble_eq_true rfl)) (ct_isI j1) ⟨Nat.le_of_ble_eq_true rfl, Nat.le_of_ble_eq_true rfl⟩
  obtain ⟨cI, q8, r, u7⟩ := u7
  refine W.eq (g2 := F0 m 150 ls []) rfl ?_
  refine ct_go (steps := stX11) (c0 := c0) hcl hx hb hts hown hin (ct_g hts ct_w1.2.2 rfl) hK hK hA hl0 150 _ _ H locs _ _ k8 (by rfl) hP hD hS (Nat.le_of_ble_eq_true rfl) (Nat.le_of_ble_eq_true rfl) (fun H locs uR huR hP hD hS => ?_)
  obtain ⟨g1, rfl⟩ := ct_ug (n := 6) hu1
  obtain ⟨g2, rfl⟩ := ct_ug (n := 6) hu2
  obtain ⟨g3, rfl⟩ := ct_ug (n := 6) hu3
  obtain ⟨g4, rfl⟩ := ct_ug (n := 1) hu4
  obtain ⟨g5, rfl⟩ := ct_ug (n := 3) hu5
  obtain ⟨g6, rfl⟩ := ct_ug (n := 4) hu6
  obtain ⟨g7, rfl⟩ := ct_ug (n := 5) (show u7.length = 5 from hu7)
  obtain ⟨gR, rfl⟩ := ct_ug (n := 2) huR
  have hP : va_P D vwCl (ct_raw c0 cW cI h0 kq w0 w1 w2 w3 w4 w5 q1 q2 q3 q4 q5 q6 q7 q8 g1 g2 g3 g4 g5 g6 g7 gR r (va_up (va_up (va_up (va_up (va_up (va_up (fun _ => none) 0 (some w0)) 1 (some w1)) 2 (some w2)) 3 (some w3)) 4 (some w4)) 5 (some w5)) (fun i => if i < 6 then some (r i) else none)) H := hP
  have hD : va_D A (ct_raw c0 cW cI h0 kq w0 w1 w2 w3 w4 w5 q1 q2 q3 q4 q5 q6 q7 q8 g1 g2 g3 g4 g5 g6 g7 gR r (va_up (va_up (va_up (va_up (va_up (va_up (fun _ => none) 0 (some w0)) 1 (some w1)) 2 (some w2)) 3 (some w3)) 4 (some w4)) 5 (some w5)) (fun i => if i < 6 then some (r i) else none)) := hD
  rw [ct_fW h0 kq w0 w1 w2 w3 w4 w5 q1 q2 q3 q4 q5 q6 q7 q8 g1 g2 g3 g4 g5 g6 g7 gR r, ct_fC h0 kq w0 w1 w2 w3 w4 w5 q1 q2 q3 q4 q5 q6 q7 q8 g1 g2 g3 g4 g5 g6 g7 gR r, ct_raw_eq] at hP hD
  refine W.widen (k := 54) (n := 556) (Nat.le_of_ble_eq_true rfl) (Nat.le_of_ble_eq_true rfl) ?_
  refine W.eq (g2 := F0 m 176 ls []) rfl ?_
  exact W.vret hx hb hr (fun t ht hW => ⟨⟨(cW, cI, ct_ad h0 kq w0 w1 w2 w3 w4 w5 q1 q2 q3 q4 q5 q6 q7 q8 g1 g2 g3 g4 g5 g6 g7 gR r), rfl, rfl, by rw [ht]; exact hP, va_K.moved hW.alike ((hKW.app hKI).sub [0, 1, 3] rfl), hD⟩, hS.F ht⟩) hS.2.2 (ct_isI k9)
