-- ints as whole numbers: I z, in range
theorem I_add (a b : Int) : I a + I b = I (a + b) := (Int32.ofInt_add a b).symm
theorem I_sub (a b : Int) : I a - I b = I (a - b) := (Int32.ofInt_sub a b).symm
theorem I_mul (a b : Int) : I a * I b = I (a * b) := (Int32.ofInt_mul a b).symm
theorem I_neg (a : Int) : -I a = I (-a) := (Int32.ofInt_neg a).symm
theorem zero_I : (0 : Int32) = I 0 := rfl
theorem one_I : (1 : Int32) = I 1 := rfl
theorem I_lt {a b : Int} (h1 : -2147483648 ≤ a) (h2 : a < 2147483648) (h3 : -2147483648 ≤ b) (h4 : b < 2147483648) : (I a < I b) = (a < b) := by
  rw [Int32.lt_iff_toInt_lt, toInt_I h1 h2, toInt_I h3 h4]
theorem I_le {a b : Int} (h1 : -2147483648 ≤ a) (h2 : a < 2147483648) (h3 : -2147483648 ≤ b) (h4 : b < 2147483648) : (I a ≤ I b) = (a ≤ b) := by
  rw [Int32.le_iff_toInt_le, toInt_I h1 h2, toInt_I h3 h4]
theorem I_eq {a b : Int} (h1 : -2147483648 ≤ a) (h2 : a < 2147483648) (h3 : -2147483648 ≤ b) (h4 : b < 2147483648) : (I a = I b) = (a = b) := by
  refine propext ⟨fun h => ?_, fun h => by rw [h]⟩
  have := congrArg Int32.toInt h
  rwa [toInt_I h1 h2, toInt_I h3 h4] at this
theorem I_nat {z : Int} (h1 : 0 ≤ z) (h2 : z < 2147483648) : (I z).toNatClampNeg = z.toNat := by
  show (I z).toInt.toNat = z.toNat
  rw [toInt_I (by omega) h2]
theorem I_div {a b : Int} (h1 : 0 ≤ a) (h2 : a < 2147483648) (h3 : 0 < b) (h4 : b < 2147483648) : I a / I b = I (a / b) := by
  apply Int32.toInt_inj.mp
  have hq : a / b ≤ a := Int.ediv_le_self b h1
  have hq0 : 0 ≤ a / b := Int.ediv_nonneg h1 (by omega)
  have h0 : a.tdiv b = a / b := Int.tdiv_eq_ediv_of_nonneg h1
  rw [Int32.toInt_div, toInt_I (by omega) h2, toInt_I (by omega) h4, toInt_I (by omega) (by omega), h0]
  exact Int.bmod_eq_of_le (by omega) (by omega)
theorem I_rem {a b : Int} (h1 : 0 ≤ a) (h2 : a < 2147483648) (h3 : 0 < b) (h4 : b < 2147483648) : irem (I a) (I b) = I (a % b) := by
  unfold irem
  rw [I_div h1 h2 h3 h4, I_mul, I_sub]
  congr 1
  rw [Int.emod_def, Int.mul_comm]
theorem ck_in {α : Type} {z : Int} {n : Nat} {x : Option α} (h1 : 0 ≤ z) (h2 : z < n) (h3 : n ≤ 1000000) : ck (mm_in (I z) n) x = x := by
  have h : mm_in (I z) n = true := by
    refine decide_eq_true (fun h => ?_)
    rcases h with h | h
    · rw [zero_I, I_lt (by omega) (by omega) (by omega) (by omega)] at h
      omega
    · rw [I_nat h1 (by omega)] at h
      omega
  unfold ck
  rw [if_pos h]
theorem cd_t {α : Type} {c : Prop} [Decidable c] {x : Option α} (h : c) : cd c x = x := by
  unfold cd
  rw [if_pos h]
theorem bd_some {α β : Type} (y : α) (f : α → Option β) : bd (some y) f = f y := rfl
theorem be_inl {α β γ : Type} (y : α) (g : α → Option γ) (f : β → Option γ) : be (some (.inl y)) g f = g y := rfl
theorem be_inr {α β γ : Type} (y : β) (g : α → Option γ) (f : β → Option γ) : be (some (.inr y)) g f = f y := rfl
theorem iw_d {α : Type} (v : Int32) (f : Int32 → α) : iw v f = f v := rfl
theorem hw_d {α : Type} (v : MH) (f : MH → α) : hw v f = f v := rfl
theorem kw_d {α β : Type} (k : α) (f : α → β) : kw k f = f k := rfl
theorem I_ite (c : Prop) [Decidable c] (a b : Int) : (if c then I a else I b) = I (if c then a else b) := by split <;> rfl
theorem bit_I (c : Prop) [Decidable c] : (I (if c then 0 else 1) &&& 1 = I (if c then 0 else 1)) = True := by split <;> exact eq_true (by decide)
theorem bit_I' (c : Prop) [Decidable c] : (I (if c then 1 else 0) &&& 1 = I (if c then 1 else 0)) = True := by split <;> exact eq_true (by decide)
theorem ofi_I (x : Int32) : ∃ z : Int, -2147483648 ≤ z ∧ z < 2147483648 ∧ x = I z := ⟨x.toInt, Int32.le_toInt x, Int32.toInt_lt x, (I_toInt x).symm⟩
theorem hs_eq {f : Nat → Nat → Int32} {k i : Nat} {x : Int32} : mm_hset f k i x k i = x := by simp [mm_hset]
theorem hs_ne {f : Nat → Nat → Int32} {k i k' i' : Nat} {x : Int32} (h : ¬ (k' = k ∧ i' = i)) : mm_hset f k i x k' i' = f k' i' := by simp only [mm_hset]; rw [if_neg h]
theorem w6_k {α : Type} {k : Int} (f : Nat → Option α) (h1 : 0 ≤ k) (h2 : k < 6) : w6 (I k) f = f (2 + k.toNat) := by
  unfold w6
  rcases (show k = 0 ∨ k = 1 ∨ k = 2 ∨ k = 3 ∨ k = 4 ∨ k = 5 by omega) with rfl | rfl | rfl | rfl | rfl | rfl <;> simp (disch := omega) only [I_eq] <;> rfl
-- the whole numbers that the document speaks of
def dist (x y : Int) : Int := if y ≤ x then x - y else y - x
theorem dist_b {x y : Int} (h1 : 0 ≤ x) (h2 : 0 ≤ y) (h3 : x ≤ 24) (h4 : y ≤ 24) : 0 ≤ dist x y ∧ dist x y ≤ 24 := by unfold dist; split <;> omega
def sSec (k f p : Int) : Int := if k = 0 then p else if k = 1 then p + 2 * f else if k = 2 then 3 * p / 4 + f else if k = 3 then (3 * p / 4 + f) / 2 + 10 else if k = 4 then p + 2 * f + 20 else 3 * p / 4 + f + 5
def sFold (k al ac f : Int) : Int := if k = 0 then al + f else if k = 1 then 2 * (al + f) else if k = 2 then (al + f) / 2 else if k = 3 then (if 2 < (al + f) / 2 then (al + f) / 2 - 2 else 0) else if k = 4 then ac + f else (al + f) / 2 / 3
def sPlain (size s : Int) : Int := if 1 < size - s then size - s else 1
def sFew (ar : Int) : Int := ar / 2 + 1
def sShake (fo w : Int) : Int := (fo + w - 1) / w
abbrev HS : Type := (Nat → Nat → Int) × Nat × Nat × Nat × Nat
abbrev hL (a : HS) (b : Nat) : Int := a.1 0 b
abbrev hB (a : HS) (b : Nat) : Int := a.1 1 b
abbrev hC (a : HS) (b : Nat) : Int := a.1 2 b
abbrev hD (a : HS) (b : Nat) : Int := a.1 3 b
abbrev hA (a : HS) (p : Nat) : Int := a.1 4 p
abbrev hS (a : HS) (p : Nat) : Int := a.1 5 p
abbrev hK (a : HS) (w : Nat) : Int := a.1 6 w
abbrev hF (a : HS) (w : Nat) : Int := a.1 7 w
abbrev nB (a : HS) : Nat := a.2.1
abbrev nP (a : HS) : Nat := a.2.2.1
abbrev nW (a : HS) : Nat := a.2.2.2.1
abbrev hLie (a : HS) : Nat := a.2.2.2.2
def sAl (a : HS) (b c : Nat) : Int := dist (hL a b) (hC a c) + dist (hB a b) (hD a c)
def sAc (a : HS) (b c : Nat) : Int := dist (hL a b) (hD a c) + dist (hB a b) (hC a c)
def sFo (a : HS) (b c : Nat) (k f : Int) : Int := sFold k (sAl a b c) (sAc a b c) f
def sSe (a : HS) (b : Nat) (k f s : Int) : Int := sSec k f (sPlain (hL a b + hB a b) s)
def sT (a : HS) (b : Nat) (k f ar s : Int) : Int := sSe a b k f s + 3 * sShake (sFo a b b k f) (sFew ar)
def sTw (a : HS) (b w p : Nat) : Int := sT a b (hK a w) (hF a w) (hA a p) (hS a p)
/-- what always holds of a house's numbers -/
def InvH (a : HS) : Prop := nB a ≤ 6 ∧ nP a ≤ 4 ∧ nW a ≤ 6 ∧ (∀ b, 1 ≤ hL a b ∧ hL a b ≤ 24 ∧ 1 ≤ hB a b ∧ hB a b ≤ 24 ∧ 1 ≤ hC a b ∧ hC a b ≤ 24 ∧ 1 ≤ hD a b ∧ hD a b ≤ 24) ∧ (∀ p, 1 ≤ hA a p ∧ hA a p ≤ 12 ∧ 0 ≤ hS a p ∧ hS a p ≤ 9) ∧ ∀ w, 0 ≤ hK a w ∧ hK a w ≤ 5 ∧ 0 ≤ hF a w ∧ hF a w ≤ 9
theorem sAl_b {a : HS} (J : InvH a) (b c : Nat) : 0 ≤ sAl a b c ∧ sAl a b c ≤ 48 := by
  obtain ⟨-, -, -, h, -, -⟩ := J
  have h1 := h b
  have h2 := h c
  have q1 := dist_b (x := hL a b) (y := hC a c) (by omega) (by omega) (by omega) (by omega)
  have q2 := dist_b (x := hB a b) (y := hD a c) (by omega) (by omega) (by omega) (by omega)
  unfold sAl
  omega
theorem sAc_b {a : HS} (J : InvH a) (b c : Nat) : 0 ≤ sAc a b c ∧ sAc a b c ≤ 48 := by
  obtain ⟨-, -, -, h, -, -⟩ := J
  have h1 := h b
  have h2 := h c
  have q1 := dist_b (x := hL a b) (y := hD a c) (by omega) (by omega) (by omega) (by omega)
  have q2 := dist_b (x := hB a b) (y := hC a c) (by omega) (by omega) (by omega) (by omega)
  unfold sAc
  omega
theorem sFold_b {k al ac f : Int} (h1 : 0 ≤ al) (h2 : al ≤ 48) (h3 : 0 ≤ ac) (h4 : ac ≤ 48) (h5 : 0 ≤ f) (h6 : f ≤ 9) : 0 ≤ sFold k al ac f ∧ sFold k al ac f ≤ 114 := by
  unfold sFold
  repeat' split
  all_goals omega
theorem sFo_b {a : HS} (J : InvH a) (b c : Nat) {k f : Int} (h5 : 0 ≤ f) (h6 : f ≤ 9) : 0 ≤ sFo a b c k f ∧ sFo a b c k f ≤ 114 := sFold_b (sAl_b J b c).1 (sAl_b J b c).2 (sAc_b J b c).1 (sAc_b J b c).2 h5 h6
theorem sPlain_b {z s : Int} (h1 : z ≤ 48) (h2 : 0 ≤ s) : 1 ≤ sPlain z s ∧ sPlain z s ≤ 48 := by
  unfold sPlain
  split <;> omega
theorem sSec_b {k f p : Int} (h1 : 1 ≤ p) (h2 : p ≤ 48) (h5 : 0 ≤ f) (h6 : f ≤ 9) : 0 ≤ sSec k f p ∧ sSec k f p ≤ 90 := by
  unfold sSec
  repeat' split
  all_goals omega
theorem sSe_b {a : HS} (J : InvH a) (b : Nat) {k f s : Int} (h5 : 0 ≤ f) (h6 : f ≤ 9) (h7 : 0 ≤ s) : 0 ≤ sSe a b k f s ∧ sSe a b k f s ≤ 90 := by
  have h := J.2.2.2.1 b
  have q := sPlain_b (z := hL a b + hB a b) (s := s) (by omega) h7
  exact sSec_b q.1 q.2 h5 h6
theorem sFew_b {ar : Int} (h1 : 1 ≤ ar) (h2 : ar ≤ 12) : 1 ≤ sFew ar ∧ sFew ar ≤ 7 := by
  unfold sFew
  omega
theorem sShake_b {fo w : Int} (h1 : 0 ≤ fo) (h2 : fo ≤ 114) (h3 : 1 ≤ w) (h4 : w ≤ 14) : 0 ≤ sShake fo w ∧ sShake fo w ≤ 114 := by
  unfold sShake
  rcases (show w = 1 ∨ w = 2 ∨ w = 3 ∨ w = 4 ∨ w = 5 ∨ w = 6 ∨ w = 7 ∨ w = 8 ∨ w = 9 ∨ w = 10 ∨ w = 11 ∨ w = 12 ∨ w = 13 ∨ w = 14 by omega) with rfl | rfl | rfl | rfl | rfl | rfl | rfl | rfl | rfl | rfl | rfl | rfl | rfl | rfl <;> omega
theorem sT_b {a : HS} (J : InvH a) (b : Nat) {k f ar s : Int} (h5 : 0 ≤ f) (h6 : f ≤ 9) (h7 : 0 ≤ s) (h8 : 1 ≤ ar) (h9 : ar ≤ 12) : 0 ≤ sT a b k f ar s ∧ sT a b k f ar s ≤ 432 := by
  have q1 := sSe_b J b (k := k) h5 h6 h7
  have q2 := sFo_b J b b (k := k) h5 h6
  have q3 := sFew_b h8 h9
  have q4 := sShake_b q2.1 q2.2 q3.1 (by omega)
  unfold sT
  omega
theorem sTw_b {a : HS} (J : InvH a) (b w p : Nat) : 0 ≤ sTw a b w p ∧ sTw a b w p ≤ 432 := by
  have h1 := J.2.2.2.2.1 p
  have h2 := J.2.2.2.2.2 w
  exact sT_b J b h2.2.2.1 h2.2.2.2 h1.2.2.1 h1.1 h1.2.1
