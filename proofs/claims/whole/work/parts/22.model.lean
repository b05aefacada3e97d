-- the model's house: what its methods answer
theorem toI64 {z : Int} (h1 : -2147483648 ≤ z) (h2 : z < 2147483648) : Int32.toInt64 (I z) = Lg z := by
  apply Int64.toInt_inj.mp
  rw [Int32.toInt_toInt64, toInt_I h1 h2]
  show z = (Int64.ofInt z).toInt
  rw [Int64.toInt_ofInt]
  exact (Int.bmod_eq_of_le (by rw [show Int64.size = 18446744073709551616 from rfl]; omega) (by rw [show Int64.size = 18446744073709551616 from rfl]; omega)).symm
theorem toInt_Lg {z : Int} (h1 : -9223372036854775808 ≤ z) (h2 : z < 9223372036854775808) : (Lg z).toInt = z := by
  show (Int64.ofInt z).toInt = z
  rw [Int64.toInt_ofInt]
  exact Int.bmod_eq_of_le (by rw [show Int64.size = 18446744073709551616 from rfl]; omega) (by rw [show Int64.size = 18446744073709551616 from rfl]; omega)
theorem Lg_lt {a b : Int} (h1 : -9223372036854775808 ≤ a) (h2 : a < 9223372036854775808) (h3 : -9223372036854775808 ≤ b) (h4 : b < 9223372036854775808) : (Lg a < Lg b) = (a < b) := by
  rw [Int64.lt_iff_toInt_lt, toInt_Lg h1 h2, toInt_Lg h3 h4]
theorem cmp_lt {a b : Int} (h1 : -9223372036854775808 ≤ a) (h2 : a < 9223372036854775808) (h3 : -9223372036854775808 ≤ b) (h4 : b < 9223372036854775808) : (lg_cmp (Lg a) (Lg b) < 0) = (a < b) := by
  rw [lg_cmp_lt, Lg_lt h1 h2 h3 h4]
theorem cmp_gt {a b : Int} (h1 : -9223372036854775808 ≤ a) (h2 : a < 9223372036854775808) (h3 : -9223372036854775808 ≤ b) (h4 : b < 9223372036854775808) : (0 < lg_cmp (Lg a) (Lg b)) = (b < a) := by
  rw [lg_cmp_gt, Lg_lt h3 h4 h1 h2]
theorem m_in {x l u : Int} (h1 : -2147483648 ≤ x) (h2 : x < 2147483648) (h3 : -2147483648 ≤ l) (h4 : l < 2147483648) (h5 : -2147483648 ≤ u) (h6 : u < 2147483648) (h : MH) : F_M_in (Lg x) (Lg l) (Lg u) h = some (I (if l ≤ x ∧ x ≤ u then 1 else 0), h) := by
  unfold F_M_in
  simp (disch := omega) only [cmp_lt, cmp_gt]
  by_cases hx : x < l
  · rw [if_pos hx, if_neg (show ¬ (l ≤ x ∧ x ≤ u) by omega)]
  · rw [if_neg hx, iw_d, I_ite, cd_t (of_eq_true (bit_I _))]
    by_cases hu : u < x
    · rw [if_pos hu, if_neg (show ¬ (l ≤ x ∧ x ≤ u) by omega)]
    · rw [if_neg hu, if_pos (show l ≤ x ∧ x ≤ u by omega)]
def RepM (a : HS) (f : Nat → Nat → Int32) : Prop :=
  f 55 0 = I (nB a) ∧ f 55 2 = I (nP a) ∧ f 55 5 = I (nW a) ∧ f 55 9 = I ((hLie a / 256 : Nat) : Int) ∧
  (∀ b, b < nB a → f 56 (4 * b) = I (hL a b) ∧ f 56 (4 * b + 1) = I (hB a b) ∧ f 56 (4 * b + 2) = I (hC a b) ∧ f 56 (4 * b + 3) = I (hD a b)) ∧
  (∀ p, p < nP a → f 57 p = I (hA a p)) ∧ (∀ p, p < nP a → f 58 p = I (hS a p)) ∧ (∀ w, w < nW a → f 59 w = I (hK a w)) ∧ (∀ w, w < nW a → f 60 w = I (hF a w)) ∧
  (∀ c, c < 4 → f 61 c = I ((hLie a / 4 ^ c % 4 : Nat) : Int))
section RM8
variable {a : HS} {f : Nat → Nat → Int32}
theorem rm_b (R : RepM a f) : f 55 0 = I (nB a) := R.1
theorem rm_p (R : RepM a f) : f 55 2 = I (nP a) := R.2.1
theorem rm_w (R : RepM a f) : f 55 5 = I (nW a) := R.2.2.1
theorem rm_o (R : RepM a f) : f 55 9 = I ((hLie a / 256 : Nat) : Int) := R.2.2.2.1
theorem rm_L (R : RepM a f) {b : Nat} (h : b < nB a) : f 56 (4 * b) = I (hL a b) := (R.2.2.2.2.1 b h).1
theorem rm_B (R : RepM a f) {b : Nat} (h : b < nB a) : f 56 (4 * b + 1) = I (hB a b) := (R.2.2.2.2.1 b h).2.1
theorem rm_C (R : RepM a f) {b : Nat} (h : b < nB a) : f 56 (4 * b + 2) = I (hC a b) := (R.2.2.2.2.1 b h).2.2.1
theorem rm_D (R : RepM a f) {b : Nat} (h : b < nB a) : f 56 (4 * b + 3) = I (hD a b) := (R.2.2.2.2.1 b h).2.2.2
theorem rm_a (R : RepM a f) {p : Nat} (h : p < nP a) : f 57 p = I (hA a p) := R.2.2.2.2.2.1 p h
theorem rm_s (R : RepM a f) {p : Nat} (h : p < nP a) : f 58 p = I (hS a p) := R.2.2.2.2.2.2.1 p h
theorem rm_k (R : RepM a f) {w : Nat} (h : w < nW a) : f 59 w = I (hK a w) := R.2.2.2.2.2.2.2.1 w h
theorem rm_f (R : RepM a f) {w : Nat} (h : w < nW a) : f 60 w = I (hF a w) := R.2.2.2.2.2.2.2.2.1 w h
theorem rm_l (R : RepM a f) {c : Nat} (h : c < 4) : f 61 c = I ((hLie a / 4 ^ c % 4 : Nat) : Int) := R.2.2.2.2.2.2.2.2.2 c h
end RM8
theorem n40 (b : Nat) : (4 * (b : Int)).toNat = 4 * b := by omega
theorem n41 (b : Nat) : (4 * (b : Int) + 1).toNat = 4 * b + 1 := by omega
theorem n42 (b : Nat) : (4 * (b : Int) + 2).toNat = 4 * b + 2 := by omega
theorem n43 (b : Nat) : (4 * (b : Int) + 3).toNat = 4 * b + 3 := by omega
-- the checks of both sides
section CHK
variable {a : HS} {h : MH} {x : Int}
theorem bit1 : (I 1 &&& 1 = I 1) = True := eq_true (by decide)
theorem bit0 : (I 0 &&& 1 = I 0) = True := eq_true (by decide)
theorem cdb {α : Type} {c : Prop} [Decidable c] {x : Option α} (h : c = True) : cd c x = x := cd_t (of_eq_true h)
theorem c_noBed_t (R : RepH 8 a h.1) (J : InvH a) (h1 : 0 ≤ x) (h2 : x < nB a) : F_C_noBed (I x) h = some (I 0, h) := by
  obtain ⟨j1, j2, j3, -⟩ := J
  simp (disch := omega) only [F_C_noBed, zero_I, rn_b R, I_lt, if_neg (show ¬ x < 0 by omega), if_pos h2, iw_d, cdb bit0]
theorem c_noBed_f (R : RepH 8 a h.1) (J : InvH a) (h0 : -2147483648 ≤ x) (h1 : x < 2147483648) (h2 : ¬ (0 ≤ x ∧ x < nB a)) : F_C_noBed (I x) h = some (I 1, h) := by
  obtain ⟨j1, j2, j3, -⟩ := J
  by_cases q : x < 0
  · simp (disch := omega) only [F_C_noBed, zero_I, rn_b R, I_lt, if_pos q]
  · simp (disch := omega) only [F_C_noBed, zero_I, rn_b R, I_lt, if_neg q, if_neg (show ¬ x < (nB a : Int) by omega), iw_d, cdb bit1]
theorem c_noOne_t (R : RepH 8 a h.1) (J : InvH a) (h1 : 0 ≤ x) (h2 : x < nP a) : F_C_noOne (I x) h = some (I 0, h) := by
  obtain ⟨j1, j2, j3, -⟩ := J
  simp (disch := omega) only [F_C_noOne, zero_I, rn_p R, I_lt, if_neg (show ¬ x < 0 by omega), if_pos h2, iw_d, cdb bit0]
theorem c_noOne_f (R : RepH 8 a h.1) (J : InvH a) (h0 : -2147483648 ≤ x) (h1 : x < 2147483648) (h2 : ¬ (0 ≤ x ∧ x < nP a)) : F_C_noOne (I x) h = some (I 1, h) := by
  obtain ⟨j1, j2, j3, -⟩ := J
  by_cases q : x < 0
  · simp (disch := omega) only [F_C_noOne, zero_I, rn_p R, I_lt, if_pos q]
  · simp (disch := omega) only [F_C_noOne, zero_I, rn_p R, I_lt, if_neg q, if_neg (show ¬ x < (nP a : Int) by omega), iw_d, cdb bit1]
theorem c_noWay_t (R : RepH 8 a h.1) (J : InvH a) (h1 : 0 ≤ x) (h2 : x < nW a) : F_C_noWay (I x) h = some (I 0, h) := by
  obtain ⟨j1, j2, j3, -⟩ := J
  simp (disch := omega) only [F_C_noWay, zero_I, rn_w R, I_lt, if_neg (show ¬ x < 0 by omega), if_pos h2, iw_d, cdb bit0]
theorem c_noWay_f (R : RepH 8 a h.1) (J : InvH a) (h0 : -2147483648 ≤ x) (h1 : x < 2147483648) (h2 : ¬ (0 ≤ x ∧ x < nW a)) : F_C_noWay (I x) h = some (I 1, h) := by
  obtain ⟨j1, j2, j3, -⟩ := J
  by_cases q : x < 0
  · simp (disch := omega) only [F_C_noWay, zero_I, rn_w R, I_lt, if_pos q]
  · simp (disch := omega) only [F_C_noWay, zero_I, rn_w R, I_lt, if_neg q, if_neg (show ¬ x < (nW a : Int) by omega), iw_d, cdb bit1]
theorem c_other_t {u : Int} (h1 : 0 ≤ x) (h2 : x ≤ u) (h3 : u < 2147483648) : F_C_otherThan (I x) (I u) h = some (I 0, h) := by
  simp (disch := omega) only [F_C_otherThan, zero_I, I_lt, I_le, if_neg (show ¬ x < 0 by omega), if_pos h2, iw_d, cdb bit0]
theorem c_other_f {u : Int} (h0 : -2147483648 ≤ x) (h1 : x < 2147483648) (h3 : 0 ≤ u) (h4 : u < 2147483648) (h2 : ¬ (0 ≤ x ∧ x ≤ u)) : F_C_otherThan (I x) (I u) h = some (I 1, h) := by
  by_cases q : x < 0
  · simp (disch := omega) only [F_C_otherThan, zero_I, I_lt, I_le, if_pos q, iw_d, cdb bit1]
  · simp (disch := omega) only [F_C_otherThan, zero_I, I_lt, I_le, if_neg q, if_neg (show ¬ x ≤ u by omega), iw_d, cdb bit1]
theorem m_isBed_t (R : RepM a h.1) (J : InvH a) (h1 : 0 ≤ x) (h2 : x < nB a) : F_M_isBed (I x) h = some (I 1, h) := by
  obtain ⟨j1, j2, j3, -⟩ := J
  simp (disch := omega) only [F_M_isBed, rm_b R, I_sub, toI64, m_in, if_pos (show 0 ≤ x ∧ x ≤ (nB a : Int) - 1 by omega), bd_some, cdb bit1]
theorem m_isBed_f (R : RepM a h.1) (J : InvH a) (h0 : -2147483648 ≤ x) (h1 : x < 2147483648) (h2 : ¬ (0 ≤ x ∧ x < nB a)) : F_M_isBed (I x) h = some (I 0, h) := by
  obtain ⟨j1, j2, j3, -⟩ := J
  simp (disch := omega) only [F_M_isBed, rm_b R, I_sub, toI64, m_in, if_neg (show ¬ (0 ≤ x ∧ x ≤ (nB a : Int) - 1) by omega), bd_some, cdb bit0]
theorem m_isOne_t (R : RepM a h.1) (J : InvH a) (h1 : 0 ≤ x) (h2 : x < nP a) : F_M_isOne (I x) h = some (I 1, h) := by
  obtain ⟨j1, j2, j3, -⟩ := J
  simp (disch := omega) only [F_M_isOne, rm_p R, I_sub, toI64, m_in, if_pos (show 0 ≤ x ∧ x ≤ (nP a : Int) - 1 by omega), bd_some, cdb bit1]
theorem m_isOne_f (R : RepM a h.1) (J : InvH a) (h0 : -2147483648 ≤ x) (h1 : x < 2147483648) (h2 : ¬ (0 ≤ x ∧ x < nP a)) : F_M_isOne (I x) h = some (I 0, h) := by
  obtain ⟨j1, j2, j3, -⟩ := J
  simp (disch := omega) only [F_M_isOne, rm_p R, I_sub, toI64, m_in, if_neg (show ¬ (0 ≤ x ∧ x ≤ (nP a : Int) - 1) by omega), bd_some, cdb bit0]
theorem m_isWay_t (R : RepM a h.1) (J : InvH a) (h1 : 0 ≤ x) (h2 : x < nW a) : F_M_isWay (I x) h = some (I 1, h) := by
  obtain ⟨j1, j2, j3, -⟩ := J
  simp (disch := omega) only [F_M_isWay, rm_w R, I_sub, toI64, m_in, if_pos (show 0 ≤ x ∧ x ≤ (nW a : Int) - 1 by omega), bd_some, cdb bit1]
theorem m_isWay_f (R : RepM a h.1) (J : InvH a) (h0 : -2147483648 ≤ x) (h1 : x < 2147483648) (h2 : ¬ (0 ≤ x ∧ x < nW a)) : F_M_isWay (I x) h = some (I 0, h) := by
  obtain ⟨j1, j2, j3, -⟩ := J
  simp (disch := omega) only [F_M_isWay, rm_w R, I_sub, toI64, m_in, if_neg (show ¬ (0 ≤ x ∧ x ≤ (nW a : Int) - 1) by omega), bd_some, cdb bit0]
end CHK
theorem ne10 : (I 1 = 0) = False := eq_false (by decide)
theorem eq00 : (I 0 = 0) = True := eq_true (by decide)
section MH8
variable {a : HS} {h : MH}
theorem m_apart {x y : Int} (h1 : 0 ≤ x) (h2 : x ≤ 24) (h3 : 0 ≤ y) (h4 : y ≤ 24) : F_M_apart (I x) (I y) h = some (I (dist x y), h) := by
  simp (disch := omega) only [F_M_apart, I_sub, I_le, I_ite, iw_d]
  congr 3
  unfold dist
  split <;> split <;> omega
theorem m_least {x y : Int} (h1 : -2147483648 ≤ x) (h2 : x < 2147483648) (h3 : -2147483648 ≤ y) (h4 : y < 2147483648) : F_M_atLeast (I x) (I y) h = some (I (if y ≤ x then x else y), h) := by
  simp (disch := omega) only [F_M_atLeast, I_le, I_ite, iw_d]
theorem m_most {x y : Int} (h1 : -2147483648 ≤ x) (h2 : x < 2147483648) (h3 : -2147483648 ≤ y) (h4 : y < 2147483648) : F_M_atMost (I x) (I y) h = some (I (if x ≤ y then x else y), h) := by
  simp (disch := omega) only [F_M_atMost, I_le, I_ite, iw_d]
theorem m_few {ar : Int} (h1 : 0 ≤ ar) (h2 : ar ≤ 12) : F_M_fewerBy (I ar) h = some (I (sFew ar), h) := by
  simp (disch := omega) only [F_M_fewerBy, I_div, I_add]
  rfl
theorem m_shakes {fo w : Int} (h1 : 0 ≤ fo) (h2 : fo ≤ 2000) (h3 : 1 ≤ w) (h4 : w ≤ 14) : F_M_shakesFor (I fo) (I w) h = some (I (sShake fo w), h) := by
  have hne : ¬ I w = 0 := by rw [zero_I, I_eq (by omega) (by omega) (by omega) (by omega)]; omega
  simp (disch := omega) only [F_M_shakesFor, cd_t hne, I_add, I_sub, I_div]
  rfl
theorem m_secs {k f p : Int} (h1 : 0 ≤ k) (h2 : k ≤ 5) (h3 : 0 ≤ f) (h4 : f ≤ 9) (h5 : 0 ≤ p) (h6 : p ≤ 48) : F_M_secondsBy (I k) (I f) (I p) h = some (I (sSec k f p), h) := by
  rcases (show k = 0 ∨ k = 1 ∨ k = 2 ∨ k = 3 ∨ k = 4 ∨ k = 5 by omega) with rfl | rfl | rfl | rfl | rfl | rfl <;> simp (disch := omega) [F_M_secondsBy, I_eq, I_mul, I_add, I_div, sSec]
theorem m_secsOf (R : RepM a h.1) (J : InvH a) {b : Nat} {k f s : Int} (hb : b < nB a) (h1 : 0 ≤ k) (h2 : k ≤ 5) (h3 : 0 ≤ f) (h4 : f ≤ 9) (h5 : 0 ≤ s) (h6 : s ≤ 9) : F_M_secondsOf (I b) (I k) (I f) (I s) h = some (I (sSe a b k f s), h) := by
  obtain ⟨j1, j2, j3, j4, j5, j6⟩ := id J
  have hb4 := j4 b
  have q : (if 1 ≤ hL a b + hB a b - s then hL a b + hB a b - s else 1) = sPlain (hL a b + hB a b) s := by
    unfold sPlain
    split <;> split <;> omega
  have q2 := sPlain_b (z := hL a b + hB a b) (s := s) (by omega) h5
  simp (disch := omega) only [F_M_secondsOf, I_mul, I_add, I_sub, ck_in, I_nat, n40, n41, rm_L R hb, rm_B R hb, m_least, q, m_secs, bd_some]
  rfl
theorem m_foldsIn (R : RepM a h.1) (J : InvH a) {b c : Nat} {k f : Int} (hb : b < nB a) (hc : c < nB a) (h1 : 0 ≤ k) (h2 : k ≤ 5) (h3 : 0 ≤ f) (h4 : f ≤ 9) : F_M_foldsIn (I b) (I c) (I k) (I f) h = some (I (sFo a b c k f), h) := by
  obtain ⟨j1, j2, j3, j4, j5, j6⟩ := id J
  have hb4 := j4 b
  have hc4 := j4 c
  have q1 := sAl_b J b c
  have q2 := sAc_b J b c
  simp (disch := omega) only [F_M_foldsIn, I_mul, ck_in, I_nat, n40, n41, n42, n43, I_add, rm_L R hb, rm_B R hb, rm_C R hc, rm_D R hc, m_apart, bd_some]
  have e1 : dist (hL a b) (hC a c) + dist (hB a b) (hD a c) = sAl a b c := rfl
  have e2 : dist (hL a b) (hD a c) + dist (hB a b) (hC a c) = sAc a b c := rfl
  rw [e1, e2]
  rcases (show k = 0 ∨ k = 1 ∨ k = 2 ∨ k = 3 ∨ k = 4 ∨ k = 5 by omega) with rfl | rfl | rfl | rfl | rfl | rfl
  all_goals simp (disch := omega) [I_eq, I_mul, I_add, I_div, I_sub, m_least, bd_some, sFo, sFold]
  all_goals (split <;> split <;> omega)
theorem m_foldsOf (R : RepM a h.1) (J : InvH a) {b w : Nat} (hb : b < nB a) (hw : w < nW a) : F_M_foldsOf (I b) (I w) h = some (I (sFo a b b (hK a w) (hF a w)), h) := by
  obtain ⟨j1, j2, j3, j4, j5, j6⟩ := id J
  have hw6 := j6 w
  simp (disch := omega) only [F_M_foldsOf, ck_in, I_nat, Int.toNat_natCast, rm_k R hw, rm_f R hw, m_foldsIn R J hb hb, bd_some]
theorem m_timeBy (R : RepM a h.1) (J : InvH a) {b : Nat} {k f ar s : Int} (hb : b < nB a) (h1 : 0 ≤ k) (h2 : k ≤ 5) (h3 : 0 ≤ f) (h4 : f ≤ 9) (h5 : 1 ≤ ar) (h6 : ar ≤ 12) (h7 : 0 ≤ s) (h8 : s ≤ 9) : F_M_timeBy (I b) (I k) (I f) (I ar) (I s) h = some (I (sT a b k f ar s), h) := by
  have q3 := sFo_b J b b (k := k) h3 h4
  have q4 := sFew_b (ar := ar) (by omega) (by omega)
  simp (disch := omega) only [F_M_timeBy, m_secsOf R J hb, m_foldsIn R J hb hb, m_few, m_shakes, bd_some, I_mul, I_add]
  rfl
theorem m_timeOf (R : RepM a h.1) (J : InvH a) {b w p : Nat} (hb : b < nB a) (hw : w < nW a) (hp : p < nP a) : F_M_timeOf (I b) (I w) (I p) h = some (I (sTw a b w p), h) := by
  obtain ⟨j1, j2, j3, j4, j5, j6⟩ := id J
  have hw6 := j6 w
  have hp5 := j5 p
  simp (disch := omega) only [F_M_timeOf, ck_in, I_nat, Int.toNat_natCast, rm_a R hp, rm_s R hp, rm_k R hw, rm_f R hw, m_timeBy R J hb, bd_some]
  rfl
end MH8
