-- constructors: arrays into final fields, ints into fields, by a list of steps
/-- a step: kind (0 an array into a final field, 1 an int, 2 the array 0 1 2 3), field, what, pool's place, place of the word, length of the push -/
abbrev CtS : Type := Nat × Nat × Nat × Nat × Nat × Nat
def ct_is (cc : ByteArray) (pc : Nat) (i : Instr) (n : Nat) : Bool := decide (decode cc pc = .ok (i, n))
def ct_pu (cc : ByteArray) (pc pl : Nat) (v : Int) : Bool := match pl with
  | 1 => ct_is cc pc (.iconst v) 1
  | 2 => ct_is cc pc (.bipush v) 2 && decide ((Int8.ofInt v).toInt32 = Int32.ofInt v)
  | 3 => ct_is cc pc (.sipush v) 3 && decide ((Int16.ofInt v).toInt32 = Int32.ofInt v)
  | _ => false
/-- the field k of class ci may be laid at the pool's place ix -/
def ct_f (ci k ix w : Nat) (fin : Bool) (ty : FieldType) : Bool := match vwCl[ci]? with
  | some (C, T, N) => decide (k < N) && mm_lw w (.fieldLink C ix C (T k).2.1 (T k).2.2.1) && decide ((T k).1 = C) && decide ((T k).2.2.2 = fin) && decide (parseFieldDescriptor (T k).2.2.1 = some ty)
  | none => false
def ct_1 (cc : ByteArray) (ci pc : Nat) : CtS → Bool
  | (0, k, n, ix, w, pl) => ct_is cc pc (.aload_n 0) 1 && ct_pu cc (pc + 1) pl (n : Int) && ct_is cc (pc + 1 + pl) (.newarray .int) 2 && ct_is cc (pc + 1 + pl + 2) (.putfield ix) 3 && ct_f ci k ix w true (.array .int) && decide (n ≤ 600)
  | (1, k, n, ix, w, pl) => ct_is cc pc (.aload_n 0) 1 && ct_pu cc (pc + 1) pl (n : Int) && ct_is cc (pc + 1 + pl) (.putfield ix) 3 && (ct_f ci k ix w false .int || (ct_f ci k ix w false .boolean && decide (n = 0)))
  | (_, k, _, ix, w, _) => ct_is cc pc (.aload_n 0) 1 && ct_is cc (pc + 1) (.iconst 4) 1 && ct_is cc (pc + 2) (.newarray .int) 2 &&
      (ct_is cc (pc + 4) .dup 1 && ct_is cc (pc + 5) (.iconst 0) 1 && ct_is cc (pc + 6) (.iconst 0) 1 && ct_is cc (pc + 7) .iastore 1) &&
      (ct_is cc (pc + 8) .dup 1 && ct_is cc (pc + 9) (.iconst 1) 1 && ct_is cc (pc + 10) (.iconst 1) 1 && ct_is cc (pc + 11) .iastore 1) &&
      (ct_is cc (pc + 12) .dup 1 && ct_is cc (pc + 13) (.iconst 2) 1 && ct_is cc (pc + 14) (.iconst 2) 1 && ct_is cc (pc + 15) .iastore 1) &&
      (ct_is cc (pc + 16) .dup 1 && ct_is cc (pc + 17) (.iconst 3) 1 && ct_is cc (pc + 18) (.iconst 3) 1 && ct_is cc (pc + 19) .iastore 1) &&
      ct_is cc (pc + 20) (.putfield ix) 3 && ct_f ci k ix w true (.array .int)
def ct_l : CtS → Nat
  | (0, _, _, _, _, pl) => 6 + pl
  | (1, _, _, _, _, pl) => 4 + pl
  | (_, _, _, _, _, _) => 23
def ct_ck (cc : ByteArray) (ci : Nat) : List CtS → Nat → Bool
  | [], _ => true
  | x :: r, pc => ct_1 cc ci pc x && ct_ck cc ci r (pc + ct_l x)
def ct_pe : List CtS → Nat → Nat
  | [], pc => pc
  | x :: r, pc => ct_pe r (pc + ct_l x)
def ct_n1 : CtS → Nat
  | (0, _, _, _, _, _) => 1
  | (1, _, _, _, _, _) => 0
  | (_, _, _, _, _, _) => 1
def ct_s1 : CtS → Nat
  | (0, _, n, _, _, _) => n
  | (1, _, _, _, _, _) => 0
  | (_, _, _, _, _, _) => 4
def ct_n : List CtS → Nat
  | [] => 0
  | x :: r => ct_n1 x + ct_n r
def ct_s : List CtS → Nat
  | [] => 0
  | x :: r => ct_s1 x + ct_s r
def ct_fs : List CtS → List Value → List Nat → List Value
  | [], fs, _ => fs
  | (1, k, n, _, _, _) :: r, fs, qs => ct_fs r (fs.set k (.int (Int32.ofInt (n : Int)))) qs
  | (_, k, _, _, _, _) :: r, fs, q :: qs => ct_fs r (fs.set k (.ref q)) qs
  | _ :: _, fs, [] => fs
def ct_ly : Nat → Int32 := upd (upd (upd (upd (fun _ => 0) (Int32.ofInt 0).toNatClampNeg (Int32.ofInt 0)) (Int32.ofInt 1).toNatClampNeg (Int32.ofInt 1)) (Int32.ofInt 2).toNatClampNeg (Int32.ofInt 2)) (Int32.ofInt 3).toNatClampNeg (Int32.ofInt 3)
def ct_ar (c0 : ClassId) : List CtS → List Nat → va_W
  | [], _ => []
  | (1, _, _, _, _, _) :: r, qs => ct_ar c0 r qs
  | (0, _, n, _, _, _) :: r, q :: qs => (q, .inl (c0, n, .inl (fun _ => 0))) :: ct_ar c0 r qs
  | (_, _, _, _, _, _) :: r, q :: qs => (q, .inl (c0, 4, .inl ct_ly)) :: ct_ar c0 r qs
  | _ :: _, [] => []
section CTR
variable {p : Program} {l : Launch} {e : Env} {R : Room} {s : State} {m : MethodId} {args : Array Value} {below : List Frame} {meth : Method} {c : Code} {H : Heap} {locs : List Loc} {cells slots : Nat} {Q : State → Prop}
variable {cc : ByteArray} {pc : Nat} {ls : Array Slot} {rest : List Value} {D : va_G} {A : Nat → Prop} {ws : va_W} {c0 : ClassId} {H0 : Heap}
theorem ct_isI {pc : Nat} {i : Instr} {n : Nat} (h : ct_is cc pc i n = true) : decode cc pc = .ok (i, n) := of_decide_eq_true h
theorem ct_K0 (harr : (Cond.arrayClass .int).before args s = true) : ∃ c0 : ClassId, ArrOfT s c0 .int ∧ va_RA s c0 .int := by
  obtain ⟨cA, kA, comp, h1, h2, h3⟩ := Cond.arrayClass_spec harr
  exact ⟨cA, fun n z => ⟨fun k h => (by cases h), kA, h2, comp, h3⟩, h1⟩
/-- a new int array: its class is c0 -/
theorem ct_newi (hx : p.tables.exec = Jvm.exec) (hb : c.code = cc) (harr : (Cond.arrayClass .int).before args s = true) (hK : va_K D vwCl [(c0, .int)] s) (hP : va_P D vwCl ws H) (hD : va_D A ws) (hS : va_S A H0 H locs) (hA : ∀ q, H0.size ≤ q → A q)
    {n : Int32} {N' : Nat} (hn : ¬ n < 0) (hN : n.toNatClampNeg = N') (hN6 : N' ≤ 600) (hcells : cells + 1 ≤ R.cells) (hslots : slots + N' ≤ R.slots) (hdg : decode cc pc = .ok (.newarray .int, 2))
    (kk : ∀ (q : Nat) (H1 : Heap), va_P D vwCl (ws ++ [(q, .inl (c0, N', .inl (fun _ => 0)))]) H1 → va_D A (ws ++ [(q, .inl (c0, N', .inl (fun _ => 0)))]) → va_S A H0 H1 locs →
      W p l e R s m args below meth c H1 locs (cells + 1) (slots + N') Q (F0 m (pc + 2) ls (.ref q :: rest))) : W p l e R s m args below meth c H locs cells slots Q (F0 m pc ls (.int n :: rest)) := by
  refine va_newa (atype := .int) (a0 := (N', .inl (fun _ => 0))) hx hb harr rfl hK hP hD hS hA (fun cA => by rw [vp_cell_i]; rfl) hn hN (by show N' * 4 ≤ 536870912; omega) hcells hslots hdg (fun q cA H1 hK1 hP1 hD1 hS1 => ?_)
  have k0 : s.vm.findClass ("[" ++ FieldType.int.toString) = some c0 := (hK1.2 0 _ rfl).2
  have k1 : s.vm.findClass ("[" ++ FieldType.int.toString) = some cA := (hK1.2 1 _ rfl).2
  have ec : c0 = cA := Option.some.inj (k0.symm.trans k1)
  subst ec
  exact kk q H1 hP1 hD1 hS1
theorem ct_push {pl : Nat} {v : Int} (hx : p.tables.exec = Jvm.exec) (hb : c.code = cc) (h : ct_pu cc pc pl v = true) (k : W p l e R s m args below meth c H locs cells slots Q (F0 m (pc + pl) ls (.int (Int32.ofInt v) :: rest))) : W p l e R s m args below meth c H locs cells slots Q (F0 m pc ls rest) := by
  unfold ct_pu at h
  split at h
  · exact lv_iconst (v := Int32.ofInt v) hx hb (ct_isI h) rfl k
  · rw [Bool.and_eq_true] at h
    exact lv_bipush (v := Int32.ofInt v) hx hb (ct_isI h.1) (of_decide_eq_true h.2) k
  · rw [Bool.and_eq_true] at h
    exact lv_sipush (v := Int32.ofInt v) hx hb (ct_isI h.1) (of_decide_eq_true h.2) k
  · cases h
theorem ct_fI {ci k ix w : Nat} {fin : Bool} {ty : FieldType} {C : String} {T : u_T} {N : Nat} (hcl : vwCl[ci]? = some (C, T, N)) (h : ct_f ci k ix w fin ty = true) : k < N ∧ Cond.fieldLink C ix C (T k).2.1 (T k).2.2.1 ∈ lw_tbl ∧ (T k).1 = C ∧ (T k).2.2.2 = fin ∧ parseFieldDescriptor (T k).2.2.1 = some ty := by
  unfold ct_f at h
  rw [hcl] at h
  dsimp only at h
  rw [Bool.and_eq_true, Bool.and_eq_true, Bool.and_eq_true, Bool.and_eq_true] at h
  obtain ⟨⟨⟨⟨h1, h2⟩, h3⟩, h4⟩, h5⟩ := h
  exact ⟨of_decide_eq_true h1, mm_lwI h2, of_decide_eq_true h3, of_decide_eq_true h4, of_decide_eq_true h5⟩
/-- a reference into a final field -/
theorem ct_putq {ci k ix w : Nat} {ty : FieldType} {C : String} {T : u_T} {N h0 q : Nat} {fs : List Value} {arrs : va_W} {tys : List (ClassId × FieldType)} (hcl : vwCl[ci]? = some (C, T, N)) (hx : p.tables.exec = Jvm.exec) (hb : c.code = cc) (hts : ∀ w ∈ lw_g, w.before args s = true) (hown : s.vm.findClass C = some m.cls) (hin2 : meth.name = "<init>") (hK : va_K D vwCl tys s) (hf : ct_f ci k ix w true ty = true) (hfs : fs.length = N) (hn : narrow ty (.ref q) = .ref q) (hfit : fits ty (.ref q) = true)
    (hP : va_P D vwCl ((h0, .inr (ci, fs)) :: arrs) H) (hD : va_D A ((h0, .inr (ci, fs)) :: arrs)) (hS : va_S A H0 H locs) (hdg : decode cc pc = .ok (.putfield ix, 3))
    (kk : ∀ (H1 : Heap) (locs1 : List Loc), va_P D vwCl ((h0, .inr (ci, fs.set k (.ref q))) :: arrs) H1 → va_D A ((h0, .inr (ci, fs.set k (.ref q))) :: arrs) → va_S A H0 H1 locs1 → W p l e R s m args below meth c H1 locs1 cells slots Q (F0 m (pc + 3) ls rest)) : W p l e R s m args below meth c H locs cells slots Q (F0 m pc ls (.ref q :: .ref h0 :: rest)) := by
  obtain ⟨f1, f2, f3, f4, f5⟩ := ct_fI hcl hf
  obtain ⟨ty0, hty, hnm⟩ := mm_clT hcl
  exact va_putF hx hb hts (mm_clW hcl) ty0 hty hnm hown hK hP hD hS 0 rfl hcl k f1 (hts _ (List.mem_filter.mpr ⟨f2, rfl⟩)) (fun x h => by rw [f3] at h; exact h) f4 hin2 f3 f5 hn hfit (by rw [hfs]; exact f1) hdg kk
theorem ct_puti {ci k ix w : Nat} {ty : FieldType} {C : String} {T : u_T} {N h0 : Nat} {x : Int32} {fs : List Value} {arrs : va_W} {tys : List (ClassId × FieldType)} (hcl : vwCl[ci]? = some (C, T, N)) (hx : p.tables.exec = Jvm.exec) (hb : c.code = cc) (hts : ∀ w ∈ lw_g, w.before args s = true) (hown : s.vm.findClass C = some m.cls) (hK : va_K D vwCl tys s) (hf : ct_f ci k ix w false ty = true) (hfs : fs.length = N) (hn : narrow ty (.int x) = .int x) (hfit : fits ty (.int x) = true)
    (hP : va_P D vwCl ((h0, .inr (ci, fs)) :: arrs) H) (hD : va_D A ((h0, .inr (ci, fs)) :: arrs)) (hS : va_S A H0 H locs) (hdg : decode cc pc = .ok (.putfield ix, 3))
    (kk : ∀ (H1 : Heap) (locs1 : List Loc), va_P D vwCl ((h0, .inr (ci, fs.set k (.int x))) :: arrs) H1 → va_D A ((h0, .inr (ci, fs.set k (.int x))) :: arrs) → va_S A H0 H1 locs1 → W p l e R s m args below meth c H1 locs1 cells slots Q (F0 m (pc + 3) ls rest)) : W p l e R s m args below meth c H locs cells slots Q (F0 m pc ls (.int x :: .ref h0 :: rest)) := by
  obtain ⟨f1, f2, f3, f4, f5⟩ := ct_fI hcl hf
  obtain ⟨ty0, hty, hnm⟩ := mm_clT hcl
  exact va_put hx hb hts (mm_clW hcl) ty0 hty hnm hown hK hP hD hS 0 rfl hcl k f1 (hts _ (List.mem_filter.mpr ⟨f2, rfl⟩)) (fun x h => by rw [f3] at h; exact h) f4 f5 hn hfit (by rw [hfs]; exact f1) hdg kk
theorem ct_ge {x : Nat × va_E} {arrs : va_W} {q : Nat} {en : va_E} : (x :: (arrs ++ [(q, en)]))[arrs.length + 1]? = some (q, en) := by simp
theorem ct_se {x : Nat × va_E} {arrs : va_W} {q : Nat} {en en2 : va_E} : (x :: (arrs ++ [(q, en)])).set (arrs.length + 1) (q, en2) = x :: (arrs ++ [(q, en2)]) := by simp
/-- one of the four stores -/
theorem ct_st {x : Nat × va_E} {arrs : va_W} {q h0 : Nat} {f : Nat → Int32} {v : Int} (hx : p.tables.exec = Jvm.exec) (hb : c.code = cc) (hK0 : va_K D vwCl [(c0, .int)] s) (hv : vp_in (Int32.ofInt v) 4) (d : (ct_is cc pc .dup 1 && ct_is cc (pc + 1) (.iconst v) 1 && ct_is cc (pc + 2) (.iconst v) 1 && ct_is cc (pc + 3) .iastore 1) = true)
    (hP : va_P D vwCl (x :: (arrs ++ [(q, .inl (c0, 4, .inl f))])) H) (hD : va_D A (x :: (arrs ++ [(q, .inl (c0, 4, .inl f))]))) (hS : va_S A H0 H locs)
    (kk : ∀ (H1 : Heap) (locs1 : List Loc), va_P D vwCl (x :: (arrs ++ [(q, .inl (c0, 4, .inl (upd f (Int32.ofInt v).toNatClampNeg (Int32.ofInt v))))])) H1 → va_D A (x :: (arrs ++ [(q, .inl (c0, 4, .inl (upd f (Int32.ofInt v).toNatClampNeg (Int32.ofInt v))))])) → va_S A H0 H1 locs1 → W p l e R s m args below meth c H1 locs1 cells slots Q (F0 m (pc + 4) ls [.ref q, .ref h0])) :
    W p l e R s m args below meth c H locs cells slots Q (F0 m pc ls [.ref q, .ref h0]) := by
  rw [Bool.and_eq_true, Bool.and_eq_true, Bool.and_eq_true] at d
  obtain ⟨⟨⟨d1, d2⟩, d3⟩, d4⟩ := d
  refine lv_dup hx hb (ct_isI d1) rfl ?_
  refine lv_iconst (v := Int32.ofInt v) hx hb (ct_isI d2) rfl ?_
  refine lv_iconst (v := Int32.ofInt v) hx hb (ct_isI d3) rfl ?_
  refine va_iast hx hb hK0 hP hD hS (arrs.length + 1) 0 ct_ge rfl hv (ct_isI d4) (fun H1 locs1 hP1 hD1 hS1 => ?_)
  rw [ct_se] at hP1 hD1
  exact kk H1 locs1 hP1 hD1 hS1
theorem ct_go {ci : Nat} {C : String} {T : u_T} {N h0 : Nat} (hcl : vwCl[ci]? = some (C, T, N)) (hx : p.tables.exec = Jvm.exec) (hb : c.code = cc) (hts : ∀ w ∈ lw_g, w.before args s = true) (hown : s.vm.findClass C = some m.cls) (hin2 : meth.name = "<init>") (harr : (Cond.arrayClass .int).before args s = true) {tys : List (ClassId × FieldType)} (hK : va_K D vwCl tys s) (hK0 : va_K D vwCl [(c0, .int)] s) (hA : ∀ q, H0.size ≤ q → A q) (hl0 : ls[0]? = some (.val (.ref h0))) :
    ∀ (steps : List CtS) (pc : Nat) (fs : List Value) (arrs : va_W) (H : Heap) (locs : List Loc) (cells slots : Nat), ct_ck cc ci steps pc = true → fs.length = N → va_P D vwCl ((h0, .inr (ci, fs)) :: arrs) H → va_D A ((h0, .inr (ci, fs)) :: arrs) → va_S A H0 H locs → cells + ct_n steps ≤ R.cells → slots + ct_s steps ≤ R.slots →
      (∀ (H1 : Heap) (locs1 : List Loc) (qs : List Nat), qs.length = ct_n steps → va_P D vwCl ((h0, .inr (ci, ct_fs steps fs qs)) :: (arrs ++ ct_ar c0 steps qs)) H1 → va_D A ((h0, .inr (ci, ct_fs steps fs qs)) :: (arrs ++ ct_ar c0 steps qs)) → va_S A H0 H1 locs1 → W p l e R s m args below meth c H1 locs1 (cells + ct_n steps) (slots + ct_s steps) Q (F0 m (ct_pe steps pc) ls [])) →
      W p l e R s m args below meth c H locs cells slots Q (F0 m pc ls []) := by
  intro steps
  induction steps with
  | nil =>
    intro pc fs arrs H locs cells slots _ _ hP hD hS _ _ kk
    refine kk H locs [] rfl ?_ ?_ hS
    · show va_P D vwCl ((h0, .inr (ci, fs)) :: (arrs ++ [])) H
      rw [List.append_nil]
      exact hP
    · show va_D A ((h0, .inr (ci, fs)) :: (arrs ++ []))
      rw [List.append_nil]
      exact hD
  | cons x r ih =>
    intro pc fs arrs H locs cells slots hck hfs hP hD hS hcl2 hsl2 kk
    unfold ct_ck at hck
    rw [Bool.and_eq_true] at hck
    obtain ⟨h1, h2⟩ := hck
    obtain ⟨kd, k, n, ix, w, pl⟩ := x
    match kd with
    | 0 =>
      simp only [ct_1, Bool.and_eq_true] at h1
      obtain ⟨⟨⟨⟨⟨d1, d2⟩, d3⟩, d4⟩, d5⟩, d6⟩ := h1
      have n6 : n ≤ 600 := of_decide_eq_true d6
      have e1 : ct_n ((0, k, n, ix, w, pl) :: r) = 1 + ct_n r := rfl
      have e2 : ct_s ((0, k, n, ix, w, pl) :: r) = n + ct_s r := rfl
      rw [e1] at hcl2
      rw [e2] at hsl2
      rw [e1, e2] at kk
      have en : (Int32.ofInt (n : Int)).toNatClampNeg = n := by
        have h := I_nat (z := (n : Int)) (by omega) (by omega)
        rw [Int.toNat_natCast] at h
        exact h
      refine lv_aload_n hx hb (ct_isI d1) rfl hl0 ?_
      refine ct_push hx hb d2 ?_
      refine ct_newi (N' := n) hx hb harr hK0 hP hD hS hA (by
        have h := I_lt (a := (n : Int)) (b := 0) (by omega) (by omega) (by omega) (by omega)
        intro q
        have q' : I (n : Int) < I 0 := q
        rw [h] at q'
        omega) en n6 (by omega) (by omega) (ct_isI d3) (fun q H1 hP1 hD1 hS1 => ?_)
      have hP1 : va_P D vwCl ((h0, .inr (ci, fs)) :: (arrs ++ [(q, .inl (c0, n, .inl (fun _ => 0)))])) H1 := hP1
      have hD1 : va_D A ((h0, .inr (ci, fs)) :: (arrs ++ [(q, .inl (c0, n, .inl (fun _ => 0)))])) := hD1
      refine ct_putq (arrs := arrs ++ [(q, .inl (c0, n, .inl (fun _ => 0)))]) hcl hx hb hts hown hin2 hK d5 hfs rfl rfl hP1 hD1 hS1 (ct_isI d4) (fun H2 locs2 hP2 hD2 hS2 => ?_)
      have pe : pc + 1 + pl + 2 + 3 = pc + ct_l (0, k, n, ix, w, pl) := by
        show _ = pc + (6 + pl)
        omega
      rw [pe]
      refine ih (pc + ct_l (0, k, n, ix, w, pl)) (fs.set k (.ref q)) (arrs ++ [(q, .inl (c0, n, .inl (fun _ => 0)))]) H2 locs2 (cells + 1) (slots + n) h2 (by rw [List.length_set]; exact hfs) hP2 hD2 hS2 (by omega) (by omega) (fun H3 locs3 qs hq hP3 hD3 hS3 => ?_)
      have g := kk H3 locs3 (q :: qs) (by rw [List.length_cons, hq]; omega)
      have ew : (h0, .inr (ci, ct_fs ((0, k, n, ix, w, pl) :: r) fs (q :: qs))) :: (arrs ++ ct_ar c0 ((0, k, n, ix, w, pl) :: r) (q :: qs)) = (h0, .inr (ci, ct_fs r (fs.set k (.ref q)) qs)) :: (arrs ++ [(q, .inl (c0, n, .inl (fun _ => 0)))] ++ ct_ar c0 r qs) := by
        rw [List.append_assoc]
        rfl
      rw [ew] at g
      have g' := g hP3 hD3 hS3
      rw [← Nat.add_assoc, ← Nat.add_assoc] at g'
      exact g'
    | 1 =>
      simp only [ct_1, Bool.and_eq_true, Bool.or_eq_true] at h1
      obtain ⟨⟨⟨d1, d2⟩, d3⟩, d4⟩ := h1
      have e1 : ct_n ((1, k, n, ix, w, pl) :: r) = ct_n r := by show 0 + ct_n r = _; omega
      have e2 : ct_s ((1, k, n, ix, w, pl) :: r) = ct_s r := by show 0 + ct_s r = _; omega
      rw [e1] at hcl2
      rw [e2] at hsl2
      rw [e1, e2] at kk
      refine lv_aload_n hx hb (ct_isI d1) rfl hl0 ?_
      refine ct_push hx hb d2 ?_
      have pe : pc + 1 + pl + 3 = pc + ct_l (1, k, n, ix, w, pl) := by
        show _ = pc + (4 + pl)
        omega
      have fin : ∀ (H2 : Heap) (locs2 : List Loc), va_P D vwCl ((h0, .inr (ci, fs.set k (.int (Int32.ofInt (n : Int))))) :: arrs) H2 → va_D A ((h0, .inr (ci, fs.set k (.int (Int32.ofInt (n : Int))))) :: arrs) → va_S A H0 H2 locs2 → W p l e R s m args below meth c H2 locs2 cells slots Q (F0 m (pc + 1 + pl + 3) ls []) := by
        intro H2 locs2 hP2 hD2 hS2
        rw [pe]
        exact ih (pc + ct_l (1, k, n, ix, w, pl)) (fs.set k (.int (Int32.ofInt (n : Int)))) arrs H2 locs2 cells slots h2 (by rw [List.length_set]; exact hfs) hP2 hD2 hS2 hcl2 hsl2 (fun H3 locs3 qs hq hP3 hD3 hS3 => kk H3 locs3 qs hq hP3 hD3 hS3)
      rcases d4 with d4 | d4
      · exact ct_puti hcl hx hb hts hown hK d4 hfs rfl rfl hP hD hS (ct_isI d3) fin
      · have n0 : n = 0 := of_decide_eq_true d4.2
        subst n0
        exact ct_puti hcl hx hb hts hown hK d4.1 hfs (by decide) (by decide) hP hD hS (ct_isI d3) fin
    | kd + 2 =>
      unfold ct_1 at h1
      simp only [Bool.and_eq_true] at h1
      obtain ⟨⟨⟨⟨⟨⟨⟨⟨d1, d2⟩, d3⟩, s1⟩, s2⟩, s3⟩, s4⟩, d4⟩, d5⟩ := h1
      have e1 : ct_n ((kd + 2, k, n, ix, w, pl) :: r) = 1 + ct_n r := rfl
      have e2 : ct_s ((kd + 2, k, n, ix, w, pl) :: r) = 4 + ct_s r := rfl
      rw [e1] at hcl2
      rw [e2] at hsl2
      rw [e1, e2] at kk
      refine lv_aload_n hx hb (ct_isI d1) rfl hl0 ?_
      refine lv_iconst (v := Int32.ofInt 4) hx hb (ct_isI d2) rfl ?_
      refine ct_newi (N' := 4) hx hb harr hK0 hP hD hS hA (by decide) (by decide) (by omega) (by omega) (by omega) (ct_isI d3) (fun q H1 hP1 hD1 hS1 => ?_)
      refine ct_st (v := 0) hx hb hK0 (by unfold vp_in; decide) (by simp only [Bool.and_eq_true]; exact s1) hP1 hD1 hS1 (fun H2 locs2 hP2 hD2 hS2 => ?_)
      refine ct_st (v := 1) hx hb hK0 (by unfold vp_in; decide) (by simp only [Bool.and_eq_true]; exact s2) hP2 hD2 hS2 (fun H3 locs3 hP3 hD3 hS3 => ?_)
      refine ct_st (v := 2) hx hb hK0 (by unfold vp_in; decide) (by simp only [Bool.and_eq_true]; exact s3) hP3 hD3 hS3 (fun H4 locs4 hP4 hD4 hS4 => ?_)
      refine ct_st (v := 3) hx hb hK0 (by unfold vp_in; decide) (by simp only [Bool.and_eq_true]; exact s4) hP4 hD4 hS4 (fun H5 locs5 hP5 hD5 hS5 => ?_)
      refine ct_putq (arrs := arrs ++ [(q, .inl (c0, 4, .inl ct_ly))]) hcl hx hb hts hown hin2 hK d5 hfs rfl rfl hP5 hD5 hS5 (ct_isI d4) (fun H6 locs6 hP6 hD6 hS6 => ?_)
      refine ih (pc + 23) (fs.set k (.ref q)) (arrs ++ [(q, .inl (c0, 4, .inl ct_ly))]) H6 locs6 (cells + 1) (slots + 4) h2 (by rw [List.length_set]; exact hfs) hP6 hD6 hS6 (by omega) (by omega) (fun H7 locs7 qs hq hP7 hD7 hS7 => ?_)
      have g := kk H7 locs7 (q :: qs) (by rw [List.length_cons, hq]; omega)
      have ew : (h0, .inr (ci, ct_fs ((kd + 2, k, n, ix, w, pl) :: r) fs (q :: qs))) :: (arrs ++ ct_ar c0 ((kd + 2, k, n, ix, w, pl) :: r) (q :: qs)) = (h0, .inr (ci, ct_fs r (fs.set k (.ref q)) qs)) :: (arrs ++ [(q, .inl (c0, 4, .inl ct_ly))] ++ ct_ar c0 r qs) := by
        rw [List.append_assoc]
        rfl
      rw [ew] at g
      have g' := g hP7 hD7 hS7
      rw [← Nat.add_assoc, ← Nat.add_assoc] at g'
      exact g'
end CTR
