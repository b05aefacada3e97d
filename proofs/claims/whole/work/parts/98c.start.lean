-- the start
def S0 : SS := ((fun q _ => if q < 5 then 1 else 0, 0, 0, 0, 228), none, [], [], [], fun _ => 0)
theorem S0_inv : InvS S0 := by
  have n1 : ∀ x : Int, x ∈ ([] : List Int) → 0 ≤ x ∧ x ≤ 255 := fun x q => absurd q List.not_mem_nil
  have n2 : ∀ x : Int, x ∈ ([] : List Int) → 0 ≤ x ∧ x ≤ 99 := fun x q => absurd q List.not_mem_nil
  have n3 : ∀ a : HS, a ∈ ([] : List HS) → InvH a ∧ okLie (hLie a) = true := fun x q => absurd q List.not_mem_nil
  have n4 : ∀ a : HS, (none : Option HS) = some a → InvH a ∧ okLie (hLie a) = true := fun a q => by cases q
  have i1 : (1 : Int) ≤ 1 ∧ (1 : Int) ≤ 24 ∧ (1 : Int) ≤ 1 ∧ (1 : Int) ≤ 24 ∧ (1 : Int) ≤ 1 ∧ (1 : Int) ≤ 24 ∧ (1 : Int) ≤ 1 ∧ (1 : Int) ≤ 24 := by decide
  have i2 : (1 : Int) ≤ 1 ∧ (1 : Int) ≤ 12 ∧ (0 : Int) ≤ 0 ∧ (0 : Int) ≤ 9 := by decide
  have i3 : (0 : Int) ≤ 0 ∧ (0 : Int) ≤ 5 ∧ (0 : Int) ≤ 0 ∧ (0 : Int) ≤ 9 := by decide
  exact ⟨⟨Nat.zero_le _, Nat.zero_le _, Nat.zero_le _, fun _ => i1, fun _ => i2, fun _ => i3⟩, n4, Nat.zero_le _, n1, Nat.zero_le _, n2, Nat.zero_le _, n3, by decide⟩
theorem S0_c : RC S0 ct_h0 := by
  refine ⟨⟨rfl, rfl, rfl, rfl, fun b q => absurd q (Nat.not_lt_zero b), fun b q => absurd q (Nat.not_lt_zero b), fun b q => absurd q (Nat.not_lt_zero b), fun b q => absurd q (Nat.not_lt_zero b), fun b q => absurd q (Nat.not_lt_zero b), fun b q => absurd q (Nat.not_lt_zero b)⟩, rfl, ⟨rfl, fun b q => absurd q (Nat.not_lt_zero b)⟩, ⟨rfl, fun b q => absurd q (Nat.not_lt_zero b)⟩, ⟨rfl, fun b q => absurd q (Nat.not_lt_zero b)⟩, fun i _ => rfl⟩
theorem S0_m : RM S0 ct_h0 := by
  refine ⟨⟨rfl, rfl, rfl, rfl, fun b q => absurd q (Nat.not_lt_zero b), fun b q => absurd q (Nat.not_lt_zero b), fun b q => absurd q (Nat.not_lt_zero b), fun b q => absurd q (Nat.not_lt_zero b), fun b q => absurd q (Nat.not_lt_zero b), fun c hc => ?_⟩, rfl, ⟨rfl, fun b q => absurd q (Nat.not_lt_zero b)⟩, ⟨rfl, fun b q => absurd q (Nat.not_lt_zero b)⟩, ⟨rfl, fun b q => absurd q (Nat.not_lt_zero b)⟩, fun i _ => rfl⟩
  match c, hc with
  | 0, _ => exact (by decide : ct_ly 0 = I ((228 / 4 ^ 0 % 4 : Nat) : Int))
  | 1, _ => exact (by decide : ct_ly 1 = I ((228 / 4 ^ 1 % 4 : Nat) : Int))
  | 2, _ => exact (by decide : ct_ly 2 = I ((228 / 4 ^ 2 % 4 : Nat) : Int))
  | 3, _ => exact (by decide : ct_ly 3 = I ((228 / 4 ^ 3 % 4 : Nat) : Int))
  | c + 4, hc => exact absurd hc (by omega)
abbrev ct_adw (f g : Nat → Nat) (m0 t : Nat) : Nat → Nat := fun k => bif Nat.ble 55 k then ([m0, g 0, g 1, g 2, g 3, g 4, g 5, g 6, g 7, g 8, g 9, g 10, g 11, g 12, g 13, g 14, g 15, g 16, g 17, g 18, g 19, g 20, t] : List Nat).getD (k - 55) 0 else f k
set_option maxRecDepth 100000 in
set_option maxHeartbeats 4000000 in
theorem ws_ent {c0 cW cI : ClassId} {f g : Nat → Nat} {m0 t : Nat} : ∀ k : Nat, k < 55 → mm_ent (ct_cy c0 cW cI) f ct_h0 k = mm_ent (ct_cy c0 cW cI) (ct_adw f g m0 t) ct_h0 k
  | 0, _ => rfl
  | 1, _ => congrArg (fun F : Nat → Option Nat => (Sum.inl (cW, 6, .inr (.inr (.inr (.inr F)))) : va_E)) (funext fun i => show (([some 2, some 3, some 4, some 5, some 6, some 7] : List (Option Nat)).getD i none).map f = (([some 2, some 3, some 4, some 5, some 6, some 7] : List (Option Nat)).getD i none).map (ct_adw f g m0 t) from match i with
    | 0 => rfl
    | 1 => rfl
    | 2 => rfl
    | 3 => rfl
    | 4 => rfl
    | 5 => rfl
    | i + 6 => rfl)
  | 2, _ => rfl
  | 3, _ => rfl
  | 4, _ => rfl
  | 5, _ => rfl
  | 6, _ => rfl
  | 7, _ => rfl
  | 8, _ => rfl
  | 9, _ => rfl
  | 10, _ => rfl
  | 11, _ => rfl
  | 12, _ => rfl
  | 13, _ => rfl
  | 14, _ => rfl
  | 15, _ => rfl
  | 16, _ => rfl
  | 17, _ => rfl
  | 18, _ => rfl
  | 19, _ => rfl
  | 20, _ => rfl
  | 21, _ => rfl
  | 22, _ => rfl
  | 23, _ => rfl
  | 24, _ => rfl
  | 25, _ => rfl
  | 26, _ => rfl
  | 27, _ => rfl
  | 28, _ => rfl
  | 29, _ => rfl
  | 30, _ => rfl
  | 31, _ => rfl
  | 32, _ => rfl
  | 33, _ => rfl
  | 34, _ => rfl
  | 35, _ => rfl
  | 36, _ => rfl
  | 37, _ => rfl
  | 38, _ => rfl
  | 39, _ => rfl
  | 40, _ => rfl
  | 41, _ => congrArg (fun F : Nat → Option Nat => (Sum.inl (cI, 6, .inr (.inr (.inr (.inr F)))) : va_E)) (funext fun i => show (([some 42, some 43, some 44, some 45, some 46, some 47] : List (Option Nat)).getD i none).map f = (([some 42, some 43, some 44, some 45, some 46, some 47] : List (Option Nat)).getD i none).map (ct_adw f g m0 t) from match i with
    | 0 => rfl
    | 1 => rfl
    | 2 => rfl
    | 3 => rfl
    | 4 => rfl
    | 5 => rfl
    | i + 6 => rfl)
  | 42, _ => rfl
  | 43, _ => rfl
  | 44, _ => rfl
  | 45, _ => rfl
  | 46, _ => rfl
  | 47, _ => rfl
  | 48, _ => rfl
  | 49, _ => rfl
  | 50, _ => rfl
  | 51, _ => rfl
  | 52, _ => rfl
  | 53, _ => rfl
  | 54, _ => rfl
  | k + 55, h => absurd h (by omega)
abbrev ws_f (g : Nat → Nat) : List Value := [.int 0, .ref (g 0), .int 0, .ref (g 1), .ref (g 2), .int 0, .ref (g 3), .ref (g 4), .ref (g 5), .int 0, .int (Int32.ofInt ((0 : Nat) : Int)), .ref (g 6), .ref (g 7), .int 0, .ref (g 8), .int 0, .int 0, .int 0, .int 0, .ref (g 9), .ref (g 10), .ref (g 11), .ref (g 12), .ref (g 13), .int 0, .int 0, .int 0, .null, .ref (g 14), .ref (g 15), .int 0, .ref (g 16), .ref (g 17), .ref (g 18), .int 0, .ref (g 19), .ref (g 20), .int 0]
abbrev ws_a (c0 : ClassId) (g : Nat → Nat) : va_W := [(g 0, .inl (c0, 24, .inl (fun _ => 0))), (g 1, .inl (c0, 4, .inl (fun _ => 0))), (g 2, .inl (c0, 4, .inl (fun _ => 0))), (g 3, .inl (c0, 6, .inl (fun _ => 0))), (g 4, .inl (c0, 6, .inl (fun _ => 0))), (g 5, .inl (c0, 4, .inl ct_ly)), (g 6, .inl (c0, 7, .inl (fun _ => 0))), (g 7, .inl (c0, 4, .inl (fun _ => 0))), (g 8, .inl (c0, 96, .inl (fun _ => 0))), (g 9, .inl (c0, 49, .inl (fun _ => 0))), (g 10, .inl (c0, 49, .inl (fun _ => 0))), (g 11, .inl (c0, 490, .inl (fun _ => 0))), (g 12, .inl (c0, 52, .inl (fun _ => 0))), (g 13, .inl (c0, 52, .inl (fun _ => 0))), (g 14, .inl (c0, 416, .inl (fun _ => 0))), (g 15, .inl (c0, 52, .inl (fun _ => 0))), (g 16, .inl (c0, 6, .inl (fun _ => 0))), (g 17, .inl (c0, 4, .inl (fun _ => 0))), (g 18, .inl (c0, 12, .inl (fun _ => 0))), (g 19, .inl (c0, 512, .inl (fun _ => 0))), (g 20, .inl (c0, 512, .inl (fun _ => 0)))]
theorem ct_f0 {k n ix w pl q : Nat} {r : List CtS} {fs : List Value} {qs : List Nat} : ct_fs ((0, k, n, ix, w, pl) :: r) fs (q :: qs) = ct_fs r (fs.set k (.ref q)) qs := rfl
theorem ct_f1 {k n ix w pl : Nat} {r : List CtS} {fs : List Value} {qs : List Nat} : ct_fs ((1, k, n, ix, w, pl) :: r) fs qs = ct_fs r (fs.set k (.int (Int32.ofInt (n : Int)))) qs := rfl
theorem ct_f2 {k n ix w pl q : Nat} {r : List CtS} {fs : List Value} {qs : List Nat} : ct_fs ((2, k, n, ix, w, pl) :: r) fs (q :: qs) = ct_fs r (fs.set k (.ref q)) qs := rfl
theorem ct_fn {fs : List Value} {qs : List Nat} : ct_fs [] fs qs = fs := rfl
theorem ws_rm {g : Nat → Nat} : (List.range 21).map g = [g 0, g 1, g 2, g 3, g 4, g 5, g 6, g 7, g 8, g 9, g 10, g 11, g 12, g 13, g 14, g 15, g 16, g 17, g 18, g 19, g 20] := rfl
theorem ws_e1 {g : Nat → Nat} : ct_fs stX12 f0X12 ((List.range 21).map g) = ws_f g := by
  rw [ws_rm]
  simp only [stX12, f0X12, ws_f, ct_f0, ct_f1, ct_f2, ct_fn, List.set_cons_zero, List.set_cons_succ]
set_option maxRecDepth 100000 in
theorem ws_e2 {c0 : ClassId} {g : Nat → Nat} : ct_ar c0 stX12 ((List.range 21).map g) = ws_a c0 g := rfl
theorem ws_rg : List.range mm_NP = List.range 55 ++ (55 :: (List.range 21).map (fun j => 56 + j)) := by decide
set_option maxRecDepth 100000 in
theorem ws_e3 {c0 cW cI : ClassId} {f g : Nat → Nat} {m0 t : Nat} : mm_ent (ct_cy c0 cW cI) (ct_adw f g m0 t) ct_h0 55 = .inr (12, ws_f g) := rfl
set_option maxRecDepth 100000 in
theorem ws_e4 {c0 cW cI : ClassId} {f g : Nat → Nat} {m0 t : Nat} : ((List.range 21).map (fun j => 56 + j)).map (fun k => (ct_adw f g m0 t k, mm_ent (ct_cy c0 cW cI) (ct_adw f g m0 t) ct_h0 k)) = ws_a c0 g := rfl
set_option maxRecDepth 100000 in
set_option maxHeartbeats 4000000 in
theorem ws_eq {c0 cW cI : ClassId} {f g : Nat → Nat} {m0 t : Nat} : ct_WC c0 (cW, cI, f) ++ ct_W c0 12 m0 stX12 f0X12 ((List.range 21).map g) = mm_ws (ct_cy c0 cW cI) (ct_adw f g m0 t) ct_h0 := by
  have h1 : ct_WC c0 (cW, cI, f) = (List.range 55).map (fun k => (ct_adw f g m0 t k, mm_ent (ct_cy c0 cW cI) (ct_adw f g m0 t) ct_h0 k)) := by
    apply List.map_congr_left
    intro k hk
    have hk := List.mem_range.mp hk
    have e1 : ct_adw f g m0 t k = f k := by
      have h : Nat.ble 55 k = false := by
        cases hh : Nat.ble 55 k with
        | false => rfl
        | true => exact absurd (Nat.le_of_ble_eq_true hh) (by omega)
      show (bif Nat.ble 55 k then _ else f k) = f k
      rw [h]
      rfl
    show (f k, mm_ent (ct_cy c0 cW cI) f ct_h0 k) = (ct_adw f g m0 t k, mm_ent (ct_cy c0 cW cI) (ct_adw f g m0 t) ct_h0 k)
    rw [e1, ws_ent (g := g) (m0 := m0) (t := t) k hk]
  unfold mm_ws
  rw [ws_rg, List.map_append, List.map_cons, ws_e3, ws_e4, h1]
  show _ ++ (m0, .inr (12, ct_fs stX12 f0X12 ((List.range 21).map g))) :: ct_ar c0 stX12 ((List.range 21).map g) = _
  rw [ws_e1, ws_e2]
  rfl
set_option maxRecDepth 100000 in
theorem ws_k : (ct_nk code 0 R_law 7 87 88 71 11 f0X11 && ct_is code 4 (.invokespecial 9) 3 && mm_lw 89 (.methodLink R_law 9 yX11_init) && mm_lw 90 (.instanceMethod yX11_init) && mm_lw 91 (.code yX11_init cX11_init 2 none) && ct_is code 7 (.astore_n 1) 1 &&
    ct_nk code 8 R_law 10 964 965 83 12 f0X12 && ct_is code 12 (.invokespecial 12) 3 && mm_lw 966 (.methodLink R_law 12 yX12_init) && mm_lw 967 (.instanceMethod yX12_init) && mm_lw 968 (.code yX12_init cX12_init 1 none) && ct_is code 15 (.astore_n 2) 1 && ct_is code 16 (.iconst 0) 1 && ct_is code 17 (.istore_n 3) 1 &&
    mm_lw 71 (.initialized yX11_init.cls) && mm_lw 83 (.initialized yX12_init.cls) && mm_lw 81 (.initialized "BothCorners$Lies") && mm_lw 407 (.laysStatic "BothCorners$Lies" "FROM" "[I") && mm_lw 96 (.arrayOver (.object "BothCorners$Way")) && mm_lw 256 (.arrayOver (.array .int)) &&
    (mm_lw 1558 (.castable "BothCorners$Crept" "BothCorners$Way") && mm_lw 1559 (.castable "BothCorners$Turned" "BothCorners$Way") && mm_lw 1560 (.castable "BothCorners$Rolled" "BothCorners$Way") && mm_lw 1561 (.castable "BothCorners$Crossed" "BothCorners$Way") && mm_lw 1562 (.castable "BothCorners$Taped" "BothCorners$Way"))) = true := by decide +kernel
set_option maxRecDepth 100000 in
theorem ws_ki : ([(208, RX0, 4), (104, RX1, 0), (125, RX2, 0), (139, RX3, 11), (194, RX4, 2), (228, RX5, 5), (118, RX6, 0), (250, RX7, 9), (132, RX8, 0), (111, RX9, 0), (97, RX10, 0), (88, RX11, 11), (965, RX12, 38)] : List (Nat × String × Nat)).all (fun q => mm_lw q.1 (.instantiable q.2.1 q.2.2)) = true := by decide +kernel
set_option maxRecDepth 100000 in
theorem ws_k2 : mm_lw 407 (.laysStatic "BothCorners$Lies" "FROM" "[I") = true ∧ mm_lw 81 (.initialized "BothCorners$Lies") = true := by decide +kernel
theorem ws_kn {args : Array Value} {s : State} (hts : ∀ w ∈ lw_tbl, w.before args s = true) : ∃ D : va_G, va_K D vwCl [] s := by
  have hki := List.all_eq_true.mp ws_ki
  have mk : ∀ (k : Nat) (C : String) (T : u_T) (N pl : Nat), vwCl[k]? = some (C, T, N) → mm_lw pl (.instantiable C N) = true → ∃ (cC : ClassId) (iS : Nat → Nat), ∀ q : vw_C, vwCl[k]? = some q → u_Kn s q.1 q.2.1 q.2.2 cC iS := by
    intro k C T N pl h1 h2
    obtain ⟨a, b, hh⟩ := u_known hts (fun w hw => (List.mem_filter.mp (mm_clW h1 w hw)).1) (hts _ (mm_lwI h2))
    refine ⟨a, b, fun q hq => ?_⟩
    rw [h1] at hq
    cases hq
    exact hh
  have key : ∀ k : Nat, ∃ (cC : ClassId) (iS : Nat → Nat), ∀ q : vw_C, vwCl[k]? = some q → u_Kn s q.1 q.2.1 q.2.2 cC iS := by
    intro k
    match k with
    | 0 => exact mk 0 RX0 TX0 4 208 rfl (hki (208, RX0, 4) (by simp))
    | 1 => exact mk 1 RX1 TX1 0 104 rfl (hki (104, RX1, 0) (by simp))
    | 2 => exact mk 2 RX2 TX2 0 125 rfl (hki (125, RX2, 0) (by simp))
    | 3 => exact mk 3 RX3 TX3 11 139 rfl (hki (139, RX3, 11) (by simp))
    | 4 => exact mk 4 RX4 TX4 2 194 rfl (hki (194, RX4, 2) (by simp))
    | 5 => exact mk 5 RX5 TX5 5 228 rfl (hki (228, RX5, 5) (by simp))
    | 6 => exact mk 6 RX6 TX6 0 118 rfl (hki (118, RX6, 0) (by simp))
    | 7 => exact mk 7 RX7 TX7 9 250 rfl (hki (250, RX7, 9) (by simp))
    | 8 => exact mk 8 RX8 TX8 0 132 rfl (hki (132, RX8, 0) (by simp))
    | 9 => exact mk 9 RX9 TX9 0 111 rfl (hki (111, RX9, 0) (by simp))
    | 10 => exact mk 10 RX10 TX10 0 97 rfl (hki (97, RX10, 0) (by simp))
    | 11 => exact mk 11 RX11 TX11 11 88 rfl (hki (88, RX11, 11) (by simp))
    | 12 => exact mk 12 RX12 TX12 38 965 rfl (hki (965, RX12, 38) (by simp))
    | k + 13 =>
      refine ⟨0, fun _ => 0, fun q hq => ?_⟩
      have h := (List.getElem?_eq_some_iff.mp hq).1
      have h : k + 13 < 13 := h
      omega
  exact ⟨(fun k => Classical.choose (key k), fun k => Classical.choose (Classical.choose_spec (key k))), fun k q hq => Classical.choose_spec (Classical.choose_spec (key k)) q hq, fun k q h => by simp at h⟩
/-- the static row FROM -/
theorem ws_st {b : Nat} {s : State} (hts : ∀ w ∈ lw_tbl, w.before #[Value.ref b] s = true) (hgv : (Jvm.Cond.and given_1 narrow_1).before #[Value.ref b] s = true) : ∃ t : Nat, va_Z "BothCorners$Lies" "FROM" "[I" (.ref t) (AA s) s s.heap ∧ va_T .int t 16 (fun j => .int (Int32.ofInt (mm_fr.getD j 0))) (AA s) s s.heap := by
  have hs := flat_of_before _ hgv
  have hA : ∀ a : Nat, a < s.heap.size → ¬ AA s a := fun a h => Nat.not_le.mpr h
  have harr : (Cond.arrayOf (.static "BothCorners$Lies" "FROM" "[I") .int).before #[Value.ref b] s = true := hs _ (by decide +kernel)
  have hlen : (Cond.eq (.length (.static "BothCorners$Lies" "FROM" "[I")) (.int 16)).before #[Value.ref b] s = true := hs _ (by decide +kernel)
  have hel : ∀ j : Nat, j < 16 → (Term.elem (.static "BothCorners$Lies" "FROM" "[I") (.int (Int32.ofNat j))).eval #[Value.ref b] s none [] s = some (.int (Int32.ofInt (mm_fr.getD j 0))) := by
    intro j hj
    match j, hj with
    | 0, _ => exact (Cond.eq_int (n := 2) (hs (Cond.eq (.elem (.static "BothCorners$Lies" "FROM" "[I") (.int 0)) (.int 2)) (by decide +kernel)) rfl).trans (congrArg (fun z : Int32 => some (Value.int z)) (by decide))
    | 1, _ => exact (Cond.eq_int (n := 3) (hs (Cond.eq (.elem (.static "BothCorners$Lies" "FROM" "[I") (.int 1)) (.int 3)) (by decide +kernel)) rfl).trans (congrArg (fun z : Int32 => some (Value.int z)) (by decide))
    | 2, _ => exact (Cond.eq_int (n := 0) (hs (Cond.eq (.elem (.static "BothCorners$Lies" "FROM" "[I") (.int 2)) (.int 0)) (by decide +kernel)) rfl).trans (congrArg (fun z : Int32 => some (Value.int z)) (by decide))
    | 3, _ => exact (Cond.eq_int (n := 1) (hs (Cond.eq (.elem (.static "BothCorners$Lies" "FROM" "[I") (.int 3)) (.int 1)) (by decide +kernel)) rfl).trans (congrArg (fun z : Int32 => some (Value.int z)) (by decide))
    | 4, _ => exact (Cond.eq_int (n := 1) (hs (Cond.eq (.elem (.static "BothCorners$Lies" "FROM" "[I") (.int 4)) (.int 1)) (by decide +kernel)) rfl).trans (congrArg (fun z : Int32 => some (Value.int z)) (by decide))
    | 5, _ => exact (Cond.eq_int (n := 0) (hs (Cond.eq (.elem (.static "BothCorners$Lies" "FROM" "[I") (.int 5)) (.int 0)) (by decide +kernel)) rfl).trans (congrArg (fun z : Int32 => some (Value.int z)) (by decide))
    | 6, _ => exact (Cond.eq_int (n := 3) (hs (Cond.eq (.elem (.static "BothCorners$Lies" "FROM" "[I") (.int 6)) (.int 3)) (by decide +kernel)) rfl).trans (congrArg (fun z : Int32 => some (Value.int z)) (by decide))
    | 7, _ => exact (Cond.eq_int (n := 2) (hs (Cond.eq (.elem (.static "BothCorners$Lies" "FROM" "[I") (.int 7)) (.int 2)) (by decide +kernel)) rfl).trans (congrArg (fun z : Int32 => some (Value.int z)) (by decide))
    | 8, _ => exact (Cond.eq_int (n := 2) (hs (Cond.eq (.elem (.static "BothCorners$Lies" "FROM" "[I") (.int 8)) (.int 2)) (by decide +kernel)) rfl).trans (congrArg (fun z : Int32 => some (Value.int z)) (by decide))
    | 9, _ => exact (Cond.eq_int (n := 0) (hs (Cond.eq (.elem (.static "BothCorners$Lies" "FROM" "[I") (.int 9)) (.int 0)) (by decide +kernel)) rfl).trans (congrArg (fun z : Int32 => some (Value.int z)) (by decide))
    | 10, _ => exact (Cond.eq_int (n := 3) (hs (Cond.eq (.elem (.static "BothCorners$Lies" "FROM" "[I") (.int 10)) (.int 3)) (by decide +kernel)) rfl).trans (congrArg (fun z : Int32 => some (Value.int z)) (by decide))
    | 11, _ => exact (Cond.eq_int (n := 1) (hs (Cond.eq (.elem (.static "BothCorners$Lies" "FROM" "[I") (.int 11)) (.int 1)) (by decide +kernel)) rfl).trans (congrArg (fun z : Int32 => some (Value.int z)) (by decide))
    | 12, _ => exact (Cond.eq_int (n := 1) (hs (Cond.eq (.elem (.static "BothCorners$Lies" "FROM" "[I") (.int 12)) (.int 1)) (by decide +kernel)) rfl).trans (congrArg (fun z : Int32 => some (Value.int z)) (by decide))
    | 13, _ => exact (Cond.eq_int (n := 0) (hs (Cond.eq (.elem (.static "BothCorners$Lies" "FROM" "[I") (.int 13)) (.int 0)) (by decide +kernel)) rfl).trans (congrArg (fun z : Int32 => some (Value.int z)) (by decide))
    | 14, _ => exact (Cond.eq_int (n := 3) (hs (Cond.eq (.elem (.static "BothCorners$Lies" "FROM" "[I") (.int 14)) (.int 3)) (by decide +kernel)) rfl).trans (congrArg (fun z : Int32 => some (Value.int z)) (by decide))
    | 15, _ => exact (Cond.eq_int (n := 2) (hs (Cond.eq (.elem (.static "BothCorners$Lies" "FROM" "[I") (.int 15)) (.int 2)) (by decide +kernel)) rfl).trans (congrArg (fun z : Int32 => some (Value.int z)) (by decide))
    | j + 16, h => exact absurd h (by omega)
  obtain ⟨t, ht, hT⟩ := va_Tof (A := AA s) (by decide) harr (Cond.eq_int (n := Int32.ofNat 16) hlen rfl) hel hA
  exact ⟨t, va_Zof (hts _ (mm_lwI ws_k2.1)) (hts _ (mm_lwI ws_k2.2)) ht hA, hT⟩
set_option maxRecDepth 100000 in
set_option maxHeartbeats 4000000 in
/-- from the entry, for every script of at most 3584 ints, the law comes to its end with true -/
theorem whole_start {p : Program} {e : Env} {s : State} {m : MethodId} {below : List Frame} {meth : Method} {c : Code} (l : Launch) (hflags : l.flags = flags0) {b L : Nat} {xs : Nat → Int32} (hL : L ≤ 3584) (C0 : lw_At p s m meth c b L xs) : W p l e room_1 s m #[Value.ref b] below meth c s.heap [] 0 0 (lw_Z below #[Value.ref b] s) (entryFrame m ([Value.ref b] : List Value).toArray 4) := by
  obtain ⟨hx, hb, hr, hml, hown, hts, hX, hbl, hlocks, hgv⟩ := id C0
  have hck := ws_k
  simp only [Bool.and_eq_true] at hck
  obtain ⟨⟨⟨⟨⟨⟨⟨⟨⟨⟨⟨⟨⟨⟨⟨⟨⟨⟨⟨⟨k1, k2⟩, k3⟩, k4⟩, k5⟩, k6⟩, k7⟩, k8⟩, k9⟩, k10⟩, k11⟩, k12⟩, k13⟩, k14⟩, k15⟩, k16⟩, k17⟩, k18⟩, k19⟩, k20⟩, ⟨⟨⟨⟨q1, q2⟩, q3⟩, q4⟩, q5⟩⟩ := hck
  have hmt : mm_hts #[Value.ref b] s := fun w hw _ => hts w hw
  have hg := mm_hg hmt
  obtain ⟨D, hKD⟩ := ws_kn hts
  obtain ⟨c0, hc1, hc2⟩ := ct_K0 (hts _ (mm_lwI ct_w1.2.2))
  have hK : va_K D vwCl [(c0, .int)] s := ⟨hKD.1, fun k q h => by
    match k, h with
    | 0, h => cases h; exact ⟨hc1, hc2⟩
    | k + 1, h => simp at h⟩
  obtain ⟨t, hZ, hT⟩ := ws_st hts hgv
  have hCX : CtX s := ⟨mm_nst hmt, va_AO.of (hts _ (mm_lwI k19)), va_AOA.of (hts _ (mm_lwI k20)), fun C hC => by
    simp only [List.mem_cons, List.not_mem_nil, or_false] at hC
    rcases hC with rfl | rfl | rfl | rfl | rfl
    · exact va_Nw.of rfl (hts _ (mm_lwI q1))
    · exact va_Nw.of rfl (hts _ (mm_lwI q2))
    · exact va_Nw.of rfl (hts _ (mm_lwI q3))
    · exact va_Nw.of rfl (hts _ (mm_lwI q4))
    · exact va_Nw.of rfl (hts _ (mm_lwI q5))⟩
  have hA : ∀ q : Nat, s.heap.size ≤ q → AA s q := fun _ h => h
  have hS : va_S (AA s) s.heap s.heap [] := va_S.rf
  have hP : va_P D vwCl [] s.heap := fun k q h => by simp at h
  have hD : va_D (AA s) [] := ⟨fun i j p q h => by simp at h, fun k q h => by simp at h⟩
  have hl := lv_entry ([.ref b]) (n := 4) (Nat.le_of_ble_eq_true rfl)
  rw [lg_entry_eq]
  generalize (lg_sl ([.ref b]) ++ List.replicate (4 - (lg_sl ([.ref b])).length) Slot.unset).toArray = ls at hl ⊢
  have hl : lv_has ls 4 [(0, .ref b)] := hl
  refine ct_new (ci := 11) (fs := f0X11) rfl k1 hx hb hg hown hK hP hD hS hA (Nat.le_of_ble_eq_true rfl) (Nat.le_of_ble_eq_true rfl) (fun q0 H1 hP1 hD1 hS1 => ?_)
  have hPc : va_P D vwCl [(q0, e0X11)] H1 := hP1
  have hDc : va_D (fun _ => True) [(q0, e0X11)] := (show va_D (AA s) [(q0, e0X11)] from hD1).weaken (fun _ _ _ _ => trivial)
  refine ct_init (ws := []) (q := q0) (en := e0X11) (post := fun u : ClassId × ClassId × (Nat → Nat) => u.2.2 0 = q0) (B := fun u t => va_P D vwCl (ct_WC c0 u) t.heap ∧ va_K D vwCl [(c0, .int), (u.1, .object "BothCorners$Way"), (u.2.1, .array .int)] t ∧ va_D (va_A [(q0, e0X11)] H1.size) (ct_WC c0 u)) (Wf := fun u => ct_WC c0 u) (ty1 := fun u => [(c0, .int), (u.1, .object "BothCorners$Way"), (u.2.1, .array .int)]) (aa := #[.ref q0]) (mc := 54) (ms := 556) (rest := [.ref q0])
    (va_runI (As := []) (rest := [.ref q0]) ⟨hx, hb, hml, hown, hg⟩ (c_X11 l D c0 q0 H1.size) (cwI 0 hg (mm_gi (mm_gm (mm_lwI k5))) rfl rfl rfl (ct_g hg k15 rfl) (ct_g hg k3 rfl) (ct_g hg k4 rfl) rfl ⟨by decide, by decide, by decide +kernel⟩ ⟨Nat.le_of_ble_eq_true rfl, Nat.le_of_ble_eq_true rfl⟩) ⟨fun a U g mk q => by obtain ⟨q0, q1, qP, qK, qD, qX⟩ := q; exact ⟨q0, q1, qP, va_K.moved (u := U) (U := U.calling g mk a) (Vm.Alike.refl U.vm) qK, qD, CtX.eqv (s := U) (U := U.calling g mk a) rfl qX⟩, fun U hU hW => ⟨rfl, by rw [hU], by rw [hU]; exact hPc, va_K.moved hW.alike hK, hDc, CtX.warm hW hCX⟩⟩ rfl rfl hl.1 rfl (lv_room (Nat.le_of_ble_eq_true rfl)) (ct_isI k2) ⟨Nat.le_of_ble_eq_true rfl, Nat.le_of_ble_eq_true rfl⟩)
    (fun u t h => h) hP1 hD1 hS1 hA (fun u H2 locs2 hu hP2 hD2 hK2 hS2 => ?_)
  obtain ⟨cW, cI, f⟩ := u
  have hf0 : f 0 = q0 := hu
  have hP2 : va_P D vwCl (ct_WC c0 (cW, cI, f)) H2 := hP2
  have hD2 : va_D (AA s) (ct_WC c0 (cW, cI, f)) := hD2
  refine W.eq (g2 := F0 m 7 ls [.ref q0]) rfl ?_
  refine lv_astore_n (lv' := [(1, .ref q0), (0, .ref b)]) hx hb (ct_isI k6) rfl hl (by decide) rfl (fun ls hl => ?_)
  refine ct_new (ci := 12) (fs := f0X12) rfl k7 hx hb hg hown hK hP2 hD2 hS2 hA (Nat.le_of_ble_eq_true rfl) (Nat.le_of_ble_eq_true rfl) (fun m0 H3 hP3 hD3 hS3 => ?_)
  have hPm : va_P D vwCl [(m0, .inr (12, f0X12))] H3 := hP3.sub [(ct_WC c0 (cW, cI, f)).length] (by
    have h := ct_lst (ws := ct_WC c0 (cW, cI, f)) (x := (m0, .inr (12, f0X12)))
    simp only [List.filterMap_cons, List.filterMap_nil, h])
  have hDm : va_D (fun _ => True) [(m0, .inr (12, f0X12))] := (hD3.sub (ws' := [(m0, .inr (12, f0X12))]) [(ct_WC c0 (cW, cI, f)).length] (by simp [va_nd]) (by
    have h := ct_lst (ws := ct_WC c0 (cW, cI, f)) (x := (m0, .inr (12, f0X12)))
    rw [List.map_cons, List.map_nil, h]
    rfl)).weaken (fun _ _ _ _ => trivial)
  refine ct_init (ws := ct_WC c0 (cW, cI, f)) (q := m0) (en := .inr (12, f0X12)) (post := fun qs : List Nat => qs.length = ct_n stX12) (B := fun qs t => va_P D vwCl (ct_W c0 12 m0 stX12 f0X12 qs) t.heap ∧ va_K D vwCl [(c0, .int)] t ∧ va_D (va_A [(m0, .inr (12, f0X12))] H3.size) (ct_W c0 12 m0 stX12 f0X12 qs)) (Wf := fun qs => ct_W c0 12 m0 stX12 f0X12 qs) (ty1 := fun _ => [(c0, .int)]) (aa := #[.ref m0]) (mc := ct_n stX12) (ms := ct_s stX12) (rest := [.ref m0])
    (va_runI (As := []) (rest := [.ref m0]) ⟨hx, hb, hml, hown, hg⟩ (c_X12 l D c0 m0 H3.size) (cwI 0 hg (mm_gi (mm_gm (mm_lwI k11))) rfl rfl rfl (ct_g hg k16 rfl) (ct_g hg k9 rfl) (ct_g hg k10 rfl) rfl ⟨by decide, by decide, by decide +kernel⟩ ⟨Nat.le_of_ble_eq_true rfl, Nat.le_of_ble_eq_true rfl⟩) ⟨fun a U g mk q => by obtain ⟨q0, q1, qP, qK, qD⟩ := q; exact ⟨q0, q1, qP, va_K.moved (u := U) (U := U.calling g mk a) (Vm.Alike.refl U.vm) qK, qD⟩, fun U hU hW => ⟨rfl, by rw [hU], by rw [hU]; exact hPm, va_K.moved hW.alike hK, hDm⟩⟩ rfl rfl hl.1 rfl (lv_room (Nat.le_of_ble_eq_true rfl)) (ct_isI k8) ⟨Nat.le_of_ble_eq_true rfl, Nat.le_of_ble_eq_true rfl⟩)
    (fun u t h => h) hP3 hD3 hS3 hA (fun qs H4 locs4 hqs hP4 hD4 _ hS4 => ?_)
  obtain ⟨g, rfl⟩ := ct_ug (n := 21) hqs
  rw [ws_eq (t := t)] at hP4 hD4
  refine W.eq (g2 := F0 m 15 ls [.ref m0]) rfl ?_
  refine lv_astore_n (lv' := [(2, .ref m0), (1, .ref q0), (0, .ref b)]) hx hb (ct_isI k12) rfl hl (by decide) rfl (fun ls hl => ?_)
  refine lv_iconst (v := I 0) hx hb (ct_isI k13) rfl ?_
  refine lv_istore_n (lv' := [(3, .int (I 0)), (2, .ref m0), (1, .ref q0), (0, .ref b)]) hx hb (ct_isI k14) rfl hl (by decide) rfl (fun ls hl => ?_)
  refine W.eq (g2 := F0 m 18 ls []) rfl ?_
  refine lw_loop (cy := ct_cy c0 cW cI) (ad := ct_adw f g m0 t) hL C0 hK2 ⟨hZ, hT⟩ (Nat.le_of_ble_eq_true rfl) (Nat.le_of_ble_eq_true rfl) (L + 1) 0 S0 ct_h0 H4 locs4 ls (Nat.zero_le L) (by omega) S0_inv S0_c S0_m ⟨hP4, hD4, hS4⟩ ?_
  have e1 : ct_adw f g m0 t 0 = q0 := hf0
  have e2 : ct_adw f g m0 t 55 = m0 := rfl
  rw [e1, e2]
  exact lv_sub hl [3, 2, 1, 0] rfl
