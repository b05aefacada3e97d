-- the class's house: what its methods answer
def RepH (q : Nat) (a : HS) (f : Nat → Nat → Int32) : Prop :=
  f q 7 = I (nB a) ∧ f q 8 = I (nP a) ∧ f q 9 = I (nW a) ∧ f q 10 = I (hLie a) ∧ (∀ b, b < nB a → f (q + 1) b = I (100 * hL a b + hB a b)) ∧ (∀ b, b < nB a → f (q + 2) b = I (100 * hC a b + hD a b)) ∧
  (∀ p, p < nP a → f (q + 3) p = I (hA a p)) ∧ (∀ p, p < nP a → f (q + 4) p = I (hS a p)) ∧ (∀ w, w < nW a → f (q + 5) w = I (hK a w)) ∧ (∀ w, w < nW a → f (q + 6) w = I (hF a w))
section R8
variable {a : HS} {f : Nat → Nat → Int32} (R : RepH 8 a f)
theorem rn_b (R : RepH 8 a f) : f 8 7 = I (nB a) := R.1
theorem rn_p (R : RepH 8 a f) : f 8 8 = I (nP a) := R.2.1
theorem rn_w (R : RepH 8 a f) : f 8 9 = I (nW a) := R.2.2.1
theorem rn_l (R : RepH 8 a f) : f 8 10 = I (hLie a) := R.2.2.2.1
theorem rn_q (R : RepH 8 a f) {b : Nat} (h : b < nB a) : f 9 b = I (100 * hL a b + hB a b) := R.2.2.2.2.1 b h
theorem rn_c (R : RepH 8 a f) {b : Nat} (h : b < nB a) : f 10 b = I (100 * hC a b + hD a b) := R.2.2.2.2.2.1 b h
theorem rn_a (R : RepH 8 a f) {p : Nat} (h : p < nP a) : f 11 p = I (hA a p) := R.2.2.2.2.2.2.1 p h
theorem rn_s (R : RepH 8 a f) {p : Nat} (h : p < nP a) : f 12 p = I (hS a p) := R.2.2.2.2.2.2.2.1 p h
theorem rn_k (R : RepH 8 a f) {w : Nat} (h : w < nW a) : f 13 w = I (hK a w) := R.2.2.2.2.2.2.2.2.1 w h
theorem rn_f (R : RepH 8 a f) {w : Nat} (h : w < nW a) : f 14 w = I (hF a w) := R.2.2.2.2.2.2.2.2.2 w h
end R8
theorem c_len {z : Int} (h1 : 0 ≤ z) (h2 : z < 2147483648) (h : MH) : F_C_lengthOf (I z) h = some (I (z / 100), h) := by
  simp (disch := omega) only [F_C_lengthOf, I_div]
theorem c_bre {z : Int} (h1 : 0 ≤ z) (h2 : z < 2147483648) (h : MH) : F_C_breadthOf (I z) h = some (I (z % 100), h) := by
  simp (disch := omega) only [F_C_breadthOf, I_rem]
theorem e100 {l b : Int} (h3 : 0 ≤ b) (h4 : b ≤ 24) : (100 * l + b) / 100 = l := by omega
theorem m100 {l b : Int} (h3 : 0 ≤ b) (h4 : b ≤ 24) : (100 * l + b) % 100 = b := by omega
theorem abs_I {x y : Int} (h1 : 0 ≤ x) (h2 : x ≤ 24) (h3 : 0 ≤ y) (h4 : y ≤ 24) : (if 0 ≤ I x - I y then I x - I y else 0 - (I x - I y)) = I (dist x y) := by
  simp (disch := omega) only [I_sub, zero_I, I_le, I_ite]
  congr 1
  unfold dist
  split <;> split <;> omega
theorem c_along {l b c d : Int} (h1 : 1 ≤ l) (h2 : l ≤ 24) (h3 : 1 ≤ b) (h4 : b ≤ 24) (h5 : 1 ≤ c) (h6 : c ≤ 24) (h7 : 1 ≤ d) (h8 : d ≤ 24) (h : MH) : F_C_apartAlong (I (100 * l + b)) (I (100 * c + d)) h = some (I (dist l c + dist b d), h) := by
  simp (disch := omega) only [F_C_apartAlong, c_len, c_bre, bd_some, iw_d, e100, m100, abs_I, I_add]
theorem c_across {l b c d : Int} (h1 : 1 ≤ l) (h2 : l ≤ 24) (h3 : 1 ≤ b) (h4 : b ≤ 24) (h5 : 1 ≤ c) (h6 : c ≤ 24) (h7 : 1 ≤ d) (h8 : d ≤ 24) (h : MH) : F_C_apartAcross (I (100 * l + b)) (I (100 * c + d)) h = some (I (dist l d + dist b c), h) := by
  simp (disch := omega) only [F_C_apartAcross, c_len, c_bre, bd_some, iw_d, e100, m100, abs_I, I_add]
theorem c_size {l b : Int} (h1 : 1 ≤ l) (h2 : l ≤ 24) (h3 : 1 ≤ b) (h4 : b ≤ 24) (h : MH) : F_C_sizeOf (I (100 * l + b)) h = some (I (l + b), h) := by
  simp (disch := omega) only [F_C_sizeOf, c_len, c_bre, bd_some, e100, m100, I_add]
theorem d_folds {k al ac f : Int} (h1 : 0 ≤ k) (h2 : k ≤ 5) (h3 : 0 ≤ al) (h4 : al ≤ 48) (h5 : 0 ≤ ac) (h6 : ac ≤ 48) (h7 : 0 ≤ f) (h8 : f ≤ 9) (h : MH) : D_foldsFor (I k) (I al) (I ac) (I f) h = some (I (sFold k al ac f), h) := by
  unfold D_foldsFor
  rw [w6_k _ h1 (by omega)]
  rcases (show k = 0 ∨ k = 1 ∨ k = 2 ∨ k = 3 ∨ k = 4 ∨ k = 5 by omega) with rfl | rfl | rfl | rfl | rfl | rfl
  · show F_W0_foldsFor _ _ _ _ = _
    simp (disch := omega) only [F_W0_foldsFor, I_add]; rfl
  · show F_W1_foldsFor _ _ _ _ = _
    simp (disch := omega) only [F_W1_foldsFor, F_W0_foldsFor_2, bd_some, I_add, I_mul]; rfl
  · show F_W2_foldsFor _ _ _ _ = _
    simp (disch := omega) only [F_W2_foldsFor, F_W0_foldsFor_3, bd_some, I_add, I_div]; rfl
  · show F_W3_foldsFor _ _ _ _ = _
    simp (disch := omega) only [F_W3_foldsFor, F_W2_foldsFor_2, F_W0_foldsFor_4, bd_some, I_add, I_div, I_sub, I_lt, iw_d, I_ite]
    congr 3
    show _ = (if 2 < (al + f) / 2 then (al + f) / 2 - 2 else 0)
    split <;> split <;> omega
  · show F_W4_foldsFor _ _ _ _ = _
    simp (disch := omega) only [F_W4_foldsFor, I_add]; rfl
  · show F_W5_foldsFor _ _ _ _ = _
    simp (disch := omega) only [F_W5_foldsFor, F_W2_foldsFor_3, F_W0_foldsFor_5, bd_some, I_add, I_div]; rfl
theorem pl_I {z s : Int} (h1 : 0 ≤ z) (h2 : z ≤ 48) (h3 : 0 ≤ s) (h4 : s ≤ 9) : (if I 1 < I z - I s then I z - I s else I 1) = I (sPlain z s) := by
  simp (disch := omega) only [I_sub, I_lt, I_ite]
  rfl
theorem d_secs {k z s f : Int} (h1 : 0 ≤ k) (h2 : k ≤ 5) (h3 : 0 ≤ z) (h4 : z ≤ 48) (h5 : 0 ≤ s) (h6 : s ≤ 9) (h7 : 0 ≤ f) (h8 : f ≤ 9) (h : MH) : D_secondsFor (I k) (I z) (I s) (I f) h = some (I (sSec k f (sPlain z s)), h) := by
  have q := sPlain_b (z := z) (s := s) h4 h5
  unfold D_secondsFor
  rw [w6_k _ h1 (by omega)]
  rcases (show k = 0 ∨ k = 1 ∨ k = 2 ∨ k = 3 ∨ k = 4 ∨ k = 5 by omega) with rfl | rfl | rfl | rfl | rfl | rfl
  · show F_W0_secondsFor _ _ _ _ = _
    simp (disch := omega) only [F_W0_secondsFor, pl_I, iw_d]; rfl
  · show F_W1_secondsFor _ _ _ _ = _
    simp (disch := omega) only [F_W1_secondsFor, F_W0_secondsFor_2, pl_I, iw_d, bd_some, I_add, I_mul]; rfl
  · show F_W2_secondsFor _ _ _ _ = _
    simp (disch := omega) only [F_W2_secondsFor, F_W0_secondsFor_3, pl_I, iw_d, bd_some, I_add, I_mul, I_div]; rfl
  · show F_W3_secondsFor _ _ _ _ = _
    simp (disch := omega) only [F_W3_secondsFor, F_W2_secondsFor_2, F_W0_secondsFor_4, pl_I, iw_d, bd_some, I_add, I_mul, I_div]; rfl
  · show F_W4_secondsFor _ _ _ _ = _
    simp (disch := omega) only [F_W4_secondsFor, F_W1_secondsFor_2, F_W0_secondsFor_5, pl_I, iw_d, bd_some, I_add, I_mul]; rfl
  · show F_W5_secondsFor _ _ _ _ = _
    simp (disch := omega) only [F_W5_secondsFor, F_W2_secondsFor_3, F_W0_secondsFor_6, pl_I, iw_d, bd_some, I_add, I_mul, I_div]; rfl
theorem c_few {ar : Int} (h1 : 0 ≤ ar) (h2 : ar ≤ 12) (h : MH) : F_C_foldsAShake (I ar) h = some (I (sFew ar), h) := by
  simp (disch := omega) only [F_C_foldsAShake, I_div, I_add]
  rfl
theorem c_till {fo w : Int} (h1 : 0 ≤ fo) (h2 : fo ≤ 114) (h3 : 1 ≤ w) (h4 : w ≤ 14) (h : MH) : F_C_shakesTill (I fo) (I w) h = some (I (sShake fo w), h) := by
  have hne : ¬ I w = 0 := by rw [zero_I, I_eq (by omega) (by omega) (by omega) (by omega)]; omega
  simp (disch := omega) only [F_C_shakesTill, I_le, if_pos h3, cd_t hne, I_add, I_sub, I_div]
  rfl
section HN
variable {a : HS} {h : MH}
theorem c_into (R : RepH 8 a h.1) (J : InvH a) {b c w : Nat} (hb : b < nB a) (hc : c < nB a) (hw : w < nW a) : F_H_foldsInto (I b) (I c) (I w) h = some (I (sFo a b c (hK a w) (hF a w)), h) := by
  obtain ⟨j1, j2, j3, j4, j5, j6⟩ := id J
  have hb4 := j4 b
  have hc4 := j4 c
  have hw6 := j6 w
  have q1 := sAl_b J b c
  have q2 := sAc_b J b c
  have e1 := c_along (l := hL a b) (b := hB a b) (c := hC a c) (d := hD a c) (by omega) (by omega) (by omega) (by omega) (by omega) (by omega) (by omega) (by omega) h
  have e2 := c_across (l := hL a b) (b := hB a b) (c := hC a c) (d := hD a c) (by omega) (by omega) (by omega) (by omega) (by omega) (by omega) (by omega) (by omega) h
  have e3 := d_folds (k := hK a w) (al := sAl a b c) (ac := sAc a b c) (f := hF a w) (by omega) (by omega) (by omega) (by omega) (by omega) (by omega) (by omega) (by omega) h
  simp (disch := omega) only [F_H_foldsInto, ck_in, I_nat, Int.toNat_natCast, rn_q R hb, rn_c R hc, rn_k R hw, rn_f R hw, e1, e2, bd_some]
  have e3' : D_foldsFor (I (hK a w)) (I (dist (hL a b) (hC a c) + dist (hB a b) (hD a c))) (I (dist (hL a b) (hD a c) + dist (hB a b) (hC a c))) (I (hF a w)) h = _ := e3
  simp only [e3', bd_some]
  rfl
theorem c_foldsBy (R : RepH 8 a h.1) (J : InvH a) {b w : Nat} (hb : b < nB a) (hw : w < nW a) : F_H_foldsBy (I b) (I w) h = some (I (sFo a b b (hK a w) (hF a w)), h) := by
  simp only [F_H_foldsBy, c_into R J hb hb hw, bd_some]
theorem c_secs (R : RepH 8 a h.1) (J : InvH a) {b w p : Nat} (hb : b < nB a) (hw : w < nW a) (hp : p < nP a) : F_H_secondsBy (I b) (I w) (I p) h = some (I (sSe a b (hK a w) (hF a w) (hS a p)), h) := by
  obtain ⟨j1, j2, j3, j4, j5, j6⟩ := id J
  have hb4 := j4 b
  have hw6 := j6 w
  have hp5 := j5 p
  have e1 := c_size (l := hL a b) (b := hB a b) (by omega) (by omega) (by omega) (by omega) h
  have e3 := d_secs (k := hK a w) (z := hL a b + hB a b) (s := hS a p) (f := hF a w) (by omega) (by omega) (by omega) (by omega) (by omega) (by omega) (by omega) (by omega) h
  simp (disch := omega) only [F_H_secondsBy, ck_in, I_nat, Int.toNat_natCast, rn_q R hb, rn_s R hp, rn_k R hw, rn_f R hw, e1, e3, bd_some]
  rfl
theorem c_shakes (R : RepH 8 a h.1) (J : InvH a) {b w p : Nat} (hb : b < nB a) (hw : w < nW a) (hp : p < nP a) : F_H_shakesBy (I b) (I w) (I p) h = some (I (sShake (sFo a b b (hK a w) (hF a w)) (sFew (hA a p))), h) := by
  obtain ⟨j1, j2, j3, j4, j5, j6⟩ := id J
  have hw6 := j6 w
  have hp5 := j5 p
  have q1 := sFo_b J b b (k := hK a w) hw6.2.2.1 hw6.2.2.2
  have q2 := sFew_b (ar := hA a p) (by omega) (by omega)
  have e1 := c_few (ar := hA a p) (by omega) (by omega) h
  have e2 := c_till (fo := sFo a b b (hK a w) (hF a w)) (w := sFew (hA a p)) (by omega) (by omega) (by omega) (by omega) h
  unfold F_H_shakesBy
  rw [c_foldsBy R J hb hw, bd_some]
  dsimp only
  rw [ck_in (by omega) (by omega) (by omega), I_nat (by omega) (by omega), Int.toNat_natCast, rn_a R hp, e1, bd_some]
  dsimp only
  rw [e2, bd_some]
theorem c_timeOf (R : RepH 8 a h.1) (J : InvH a) {b : Nat} {k f ar s : Int} (hb : b < nB a) (h1 : 0 ≤ k) (h2 : k ≤ 5) (h3 : 0 ≤ f) (h4 : f ≤ 9) (h5 : 1 ≤ ar) (h6 : ar ≤ 12) (h7 : 0 ≤ s) (h8 : s ≤ 9) : F_H_timeOf (I b) (I k) (I f) (I ar) (I s) h = some (I (sT a b k f ar s), h) := by
  obtain ⟨j1, j2, j3, j4, j5, j6⟩ := id J
  have hb4 := j4 b
  have q1 := sAl_b J b b
  have q2 := sAc_b J b b
  have q3 := sFo_b J b b (k := k) h3 h4
  have q4 := sFew_b (ar := ar) (by omega) (by omega)
  have e0 := c_size (l := hL a b) (b := hB a b) (by omega) (by omega) (by omega) (by omega) h
  have e1 : F_C_apartAlong (I (100 * hL a b + hB a b)) (I (100 * hC a b + hD a b)) h = some (I (sAl a b b), h) := c_along (l := hL a b) (b := hB a b) (c := hC a b) (d := hD a b) (by omega) (by omega) (by omega) (by omega) (by omega) (by omega) (by omega) (by omega) h
  have e2 : F_C_apartAcross (I (100 * hL a b + hB a b)) (I (100 * hC a b + hD a b)) h = some (I (sAc a b b), h) := c_across (l := hL a b) (b := hB a b) (c := hC a b) (d := hD a b) (by omega) (by omega) (by omega) (by omega) (by omega) (by omega) (by omega) (by omega) h
  have e3 : D_foldsFor (I k) (I (sAl a b b)) (I (sAc a b b)) (I f) h = some (I (sFo a b b k f), h) := d_folds (by omega) (by omega) (by omega) (by omega) (by omega) (by omega) (by omega) (by omega) h
  have e4 : D_secondsFor (I k) (I (hL a b + hB a b)) (I s) (I f) h = some (I (sSe a b k f s), h) := d_secs (by omega) (by omega) (by omega) (by omega) (by omega) (by omega) (by omega) (by omega) h
  simp (disch := omega) only [F_H_timeOf, ck_in, I_nat, Int.toNat_natCast, rn_q R hb, rn_c R hb, e0, e1, e2, e3, e4, c_few, c_till, bd_some, I_mul, I_add]
  rfl
theorem c_timeBy (R : RepH 8 a h.1) (J : InvH a) {b w p : Nat} (hb : b < nB a) (hw : w < nW a) (hp : p < nP a) : F_H_timeBy (I b) (I w) (I p) h = some (I (sTw a b w p), h) := by
  obtain ⟨j1, j2, j3, j4, j5, j6⟩ := id J
  have hw6 := j6 w
  have hp5 := j5 p
  simp (disch := omega) only [F_H_timeBy, ck_in, I_nat, Int.toNat_natCast, rn_a R hp, rn_s R hp, rn_k R hw, rn_f R hw, c_timeOf R J hb, bd_some]
  rfl
theorem c_timeWith (R : RepH 8 a h.1) (J : InvH a) {b w : Nat} {ar s : Int} (hb : b < nB a) (hw : w < nW a) (h5 : 1 ≤ ar) (h6 : ar ≤ 12) (h7 : 0 ≤ s) (h8 : s ≤ 9) : F_H_timeWith (I b) (I w) (I ar) (I s) h = some (I (sT a b (hK a w) (hF a w) ar s), h) := by
  obtain ⟨j1, j2, j3, j4, j5, j6⟩ := id J
  have hw6 := j6 w
  simp (disch := omega) only [F_H_timeWith, ck_in, I_nat, Int.toNat_natCast, rn_k R hw, rn_f R hw, c_timeOf R J hb, bd_some]
end HN
