-- of the decompiler's cases
theorem mm_inN {i : Int32} {n : Nat} (h : mm_in i n = true) : i.toNatClampNeg < n := by
  have h2 : ¬ (i < 0 ∨ n ≤ i.toNatClampNeg) := of_decide_eq_true h
  exact Nat.not_le.mp fun q => h2 (Or.inr q)
theorem mm_c6s : ∀ j, j < 6 → (mm_sh (42 + j) = .inl 6 ∧ Nat.blt (42 + j) mm_NP = true ∧ Nat.ble mm_NP (42 + j) = false) := by
  intro j hj
  rcases (show j = 0 ∨ j = 1 ∨ j = 2 ∨ j = 3 ∨ j = 4 ∨ j = 5 by omega) with rfl | rfl | rfl | rfl | rfl | rfl <;> exact ⟨rfl, rfl, rfl⟩
theorem mm_c6 {i : Int32} (h : mm_in i 6 = true) : mm_sh (42 + Int32.toNatClampNeg i) = .inl 6 ∧ Nat.blt (42 + Int32.toNatClampNeg i) mm_NP = true ∧ Nat.ble mm_NP (42 + Int32.toNatClampNeg i) = false := mm_c6s _ (mm_inN h)
theorem mm_c6q : ∀ j, j < 6 → ([some 42, some 43, some 44, some 45, some 46, some 47] : List (Option Nat)).getD j none = some (42 + j) := by decide +kernel
theorem mm_c6r {i : Int32} (h : mm_in i 6 = true) : ([some 42, some 43, some 44, some 45, some 46, some 47] : List (Option Nat)).getD (Int32.toNatClampNeg i) none = some (42 + Int32.toNatClampNeg i) := mm_c6q _ (mm_inN h)
theorem mm_w6q : ∀ j, j < 6 → ([some 2, some 3, some 4, some 5, some 6, some 7] : List (Option Nat)).getD j none = some (2 + j) := by decide +kernel
theorem mm_w6r {i : Int32} (h : mm_in i 6 = true) : ([some 2, some 3, some 4, some 5, some 6, some 7] : List (Option Nat)).getD (Int32.toNatClampNeg i) none = some (2 + Int32.toNatClampNeg i) := mm_w6q _ (mm_inN h)
theorem I_toInt (x : Int32) : I x.toInt = x := Int32.ofInt_toInt x
theorem toInt_I {z : Int} (h1 : -2147483648 ≤ z) (h2 : z < 2147483648) : (I z).toInt = z := Int32.toInt_ofInt_of_le (by simpa using h1) (by simpa using h2)
theorem mm_tswD {df lo hi : Int} {offs : Array Int} {x : Int32} (h1 : -2147483648 ≤ lo) (h2 : hi < 2147483648) (h : ∀ k : Int, lo ≤ k → k ≤ hi → ¬ x = I k) : mm_tsw df lo hi offs x = some df := by
  unfold mm_tsw
  by_cases q : x.toInt < lo ∨ hi < x.toInt
  · rw [decide_eq_true q]
    rfl
  · exact absurd (I_toInt x).symm (h x.toInt (by omega) (by omega))
theorem mm_lswS {x : Int32} {a o d off : Int} {r : List (Int × Int)} (h : ¬ x = I a) (ha : (I a).toInt = a) (k : Op.lookupswitch.offset r d x.toInt = off) : Op.lookupswitch.offset ((a, o) :: r) d x.toInt = off := (lv_osw (k := I a) h ha).trans k
def mm_wt (f k : Nat) : Option Nat := bif Nat.ble mm_NP k then none else match mm_cls k with
  | some ci => (mm_vf mm_vt ci f).map (fun q => q.1)
  | none => none
theorem g_ciW {d mid pc q : Nat} {lo : MLo} {st : List MV} {h h1 : MH} {r : MRs} {w b cw : Nat} {ix kr tg d0 : Nat} {x1 x2 x3 x : Int32} (hc : mm_code mid pc = some (.invokevirtual ix, w, 4, b, cw, 3)) (ht : mm_wt b kr = some tg) (hm : Nat.ble (mm_sum st) 8 = true) (he : Ex d0 tg [.inr (.inl (some kr)), .inl x1, .inl x2, .inl x3] h (some (.inl x), h1)) (hd : Nat.ble d0 d = true) (hq : pc + 3 = q) (k : Go d mid q lo (.inl x :: st) h1 r) : Go d mid pc lo (.inl x3 :: .inl x2 :: .inl x1 :: .inr (.inl (some kr)) :: st) h r := by
  subst hq
  refine go_call (m := 4) (tg := tg) hc rfl (fun call => ?_) (by simp) hm (ex_up (Nat.le_of_ble_eq_true hd) he) k
  unfold mm_wt at ht
  obtain ⟨hb, ht⟩ := mm_bin ht
  have hkr : kr < mm_NP := Nat.not_le.mp (fun w => by rw [show Nat.ble mm_NP kr = true from Nat.ble_eq_true_of_le w] at hb; cases hb)
  cases hcl : mm_cls kr with
  | none => rw [hcl] at ht; cases ht
  | some ci =>
    rw [hcl] at ht
    dsimp only at ht
    cases hv : mm_vf mm_vt ci b with
    | none => rw [hv] at ht; cases ht
    | some y =>
      obtain ⟨t, s⟩ := y
      rw [hv] at ht
      cases ht
      unfold mm_ac
      dsimp only
      rw [show Int.toNat 3 = 3 from rfl, mm_rc_of (st := .inl x3 :: .inl x2 :: .inl x1 :: .inr (.inl (some kr)) :: st) (nn := 3) rfl hkr]
      rw [show Nat.beq 4 4 = true from rfl]
      dsimp only [cond_true]
      rw [hcl]
      dsimp only
      rw [hv]
