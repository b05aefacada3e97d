theorem dig_dec : ∀ l : Fin 512, ∀ c : Fin 4, ((I ((l : Nat) : Int) >>> ((I 2 * I ((c : Nat) : Int)) &&& 31)) &&& I 3) = I ((dig l c : Nat) : Int) := by decide +kernel
theorem out_dec : ∀ l : Fin 512, (if ¬ (I ((l : Nat) : Int) &&& I 256) = 0 then I 1 else I 0) = I (((l : Nat) / 256 : Nat) : Int) := by decide +kernel
def prm (t c : Nat) : Nat := (([[2, 3, 0, 1], [1, 0, 3, 2], [2, 0, 3, 1], [1, 0, 3, 2]] : List (List Nat)).getD t []).getD c 0
theorem tdg_dec : ∀ l : Fin 512, ∀ t c : Fin 4, dig (tl l t) c = dig l (prm t c) := by decide +kernel
theorem tdo_dec : ∀ l : Fin 512, ∀ t : Fin 4, tl l t / 256 = if (t : Nat) = 3 then 1 - (l : Nat) / 256 else (l : Nat) / 256 := by decide +kernel
theorem dig_lt (l c : Nat) : dig l c < 4 := by unfold dig; omega
def plc (l c : Nat) : Nat := if dig l 0 = c then 0 else if dig l 1 = c then 1 else if dig l 2 = c then 2 else 3
theorem plc_dec : ∀ l : Fin 512, ∀ c : Fin 4, okLie l = true → dig l (plc l c) = c ∧ plc l c < 4 := by decide +kernel
def own (l : Nat) : Nat → Nat
  | 0 => 0
  | n + 1 => own l n + (if dig l n = n then 1 else 0)
theorem own_le (l n : Nat) : own l n ≤ n := by
  induction n with
  | zero => exact Nat.le_refl _
  | succ n ih =>
    show own l n + (if dig l n = n then 1 else 0) ≤ n + 1
    split <;> omega
section LI2
variable {h : MH}
theorem c_cornerAt {l c : Nat} (hl : l < 512) (hc : c < 4) : F_L_cornerAt (I l) (I c) h = some (I ((dig l c : Nat) : Int), h) := by
  have e := dig_dec ⟨l, hl⟩ ⟨c, hc⟩
  have e' : ((I (l : Int) >>> ((I 2 * I (c : Int)) &&& 31)) &&& I 3) = I ((dig l c : Nat) : Int) := e
  unfold F_L_cornerAt
  rw [e']
theorem c_inOut {l : Nat} (hl : l < 512) : F_L_insideOut (I l) h = some (I ((l / 256 : Nat) : Int), h) := by
  have e : (if ¬ (I (l : Int) &&& I 256) = 0 then I 1 else I 0) = I ((l / 256 : Nat) : Int) := out_dec ⟨l, hl⟩
  unfold F_L_insideOut
  rw [e, iw_s]
theorem l_own {l : Nat} (hl : l < 512) : ∀ d i n : Nat, i + d = 4 → d < n → L_L_atTheirOwn_4 (I l) n (I ((own l i : Nat) : Int)) (I i) h = some (I ((own l 4 : Nat) : Int), h) := by
  intro d
  induction d with
  | zero =>
    intro i n e hn
    obtain ⟨k, rfl⟩ := sfuel hn
    obtain rfl : i = 4 := by omega
    simp (disch := omega) only [L_L_atTheirOwn_4, I_le]
    rw [if_pos (by omega)]
  | succ d ih =>
    intro i n e hn
    obtain ⟨k, rfl⟩ := sfuel hn
    have g := ih (i + 1) k (by omega) (by omega)
    have b := dig_lt l i
    have o := own_le l i
    have e1 : own l (i + 1) = own l i + (if dig l i = i then 1 else 0) := rfl
    rw [e1] at g
    simp (disch := omega) only [L_L_atTheirOwn_4, I_le, if_neg (show ¬ (4 : Int) ≤ (i : Int) by omega), c_cornerAt hl (show i < 4 by omega), bd_s, I_eq, I_add, iw_s]
    by_cases c : dig l i = i
    · rw [if_pos c] at g
      rw [if_neg (show ¬ ¬ ((dig l i : Nat) : Int) = (i : Int) by omega)]
      exact g
    · rw [if_neg c] at g
      rw [if_pos (show ¬ ((dig l i : Nat) : Int) = (i : Int) by omega)]
      exact g
theorem c_own {l : Nat} (hl : l < 512) : F_L_atTheirOwn (I l) h = some (I ((own l 4 : Nat) : Int), h) := by
  have g : L_L_atTheirOwn_4 (I l) 5000 (I 0) (I 0) h = _ := l_own hl 4 0 5000 (by omega) (by omega)
  simp only [F_L_atTheirOwn, g, bd_s]
theorem l_mown {a : HS} (R : RepM a h.1) : ∀ d i n : Nat, i + d = 4 → d < n → L_M_ownMany_4 n (I ((own (hLie a) i : Nat) : Int)) (I i) h = some (I ((own (hLie a) 4 : Nat) : Int), h) := by
  intro d
  induction d with
  | zero =>
    intro i n e hn
    obtain ⟨k, rfl⟩ := sfuel hn
    obtain rfl : i = 4 := by omega
    simp (disch := omega) only [L_M_ownMany_4, I_le]
    rw [if_pos (by omega)]
  | succ d ih =>
    intro i n e hn
    obtain ⟨k, rfl⟩ := sfuel hn
    have g := ih (i + 1) k (by omega) (by omega)
    have b := dig_lt (hLie a) i
    have o := own_le (hLie a) i
    have e1 : own (hLie a) (i + 1) = own (hLie a) i + (if dig (hLie a) i = i then 1 else 0) := rfl
    rw [e1] at g
    have rl : h.1 61 i = I ((dig (hLie a) i : Nat) : Int) := rm_l R (by omega)
    simp (disch := omega) only [L_M_ownMany_4, I_le, if_neg (show ¬ (4 : Int) ≤ (i : Int) by omega), ck_in, I_nat, Int.toNat_natCast, rl, I_eq, iw_s]
    by_cases c : dig (hLie a) i = i
    · rw [if_pos c] at g
      rw [if_neg (show ¬ ¬ ((dig (hLie a) i : Nat) : Int) = (i : Int) by omega), I_add, I_add]
      exact g
    · rw [if_neg c] at g
      rw [if_pos (show ¬ ((dig (hLie a) i : Nat) : Int) = (i : Int) by omega), I_add, I_add]
      exact g
theorem m_own {a : HS} (R : RepM a h.1) : F_M_ownMany h = some (I ((own (hLie a) 4 : Nat) : Int), h) := by
  have g : L_M_ownMany_4 5000 (I 0) (I 0) h = _ := l_mown R 4 0 5000 (by omega) (by omega)
  simp only [F_M_ownMany, g, bd_s]
theorem l_plc {l c n : Nat} (hl : l < 512) (hc : c < 4) : L_L_placeOf_2 (I l) (I c) (n + 1 + 1 + 1 + 1) (I 0) h = some (I ((plc l c : Nat) : Int), h) := by
  have b0 := dig_lt l 0
  have b1 := dig_lt l 1
  have b2 := dig_lt l 2
  have c0 : F_L_cornerAt (I l) (I 0) h = _ := c_cornerAt (c := 0) hl (by omega)
  have c1 : F_L_cornerAt (I l) (I (0 + 1)) h = _ := c_cornerAt (c := 1) hl (by omega)
  have c2 : F_L_cornerAt (I l) (I (0 + 1 + 1)) h = _ := c_cornerAt (c := 2) hl (by omega)
  have i3 : (I 3 ≤ I (0 + 1 + 1 + 1)) = True := eq_true (by decide)
  simp (disch := omega) only [L_L_placeOf_2, I_le, I_add, if_neg (show ¬ (3 : Int) ≤ 0 by omega), if_neg (show ¬ (3 : Int) ≤ 0 + 1 by omega), if_neg (show ¬ (3 : Int) ≤ 0 + 1 + 1 by omega), if_pos (show (3 : Int) ≤ 0 + 1 + 1 + 1 by omega), c0, c1, c2, bd_s, I_eq]
  unfold plc
  by_cases d0 : dig l 0 = c
  · rw [if_pos d0, if_pos (by omega)]
    rfl
  · rw [if_neg d0, if_neg (by omega)]
    by_cases d1 : dig l 1 = c
    · rw [if_pos d1, if_pos (by omega)]
      rfl
    · rw [if_neg d1, if_neg (by omega)]
      by_cases d2 : dig l 2 = c
      · rw [if_pos d2, if_pos (by omega)]
        rfl
      · rw [if_neg d2, if_neg (by omega)]
        rfl
theorem c_plc {l c : Nat} (hl : l < 512) (hc : c < 4) : F_L_placeOf (I l) (I c) h = some (I ((plc l c : Nat) : Int), h) := by
  have g : L_L_placeOf_2 (I l) (I c) 5000 (I 0) h = _ := l_plc (n := 4996) hl hc
  simp only [F_L_placeOf, g, bd_s]
end LI2
-- the model's thought of a lie
def RepT (l : Nat) (f : Nat → Nat → Int32) : Prop := f 55 13 = I ((l / 256 : Nat) : Int) ∧ ∀ c, c < 4 → f 63 c = I ((dig l c : Nat) : Int)
theorem m_change {i j : Nat} {h : MH} (hi : i < 4) (hj : j < 4) : F_M_change (I i) (I j) h = some (mm_hset (mm_hset h.1 63 i (h.1 63 j)) 63 j (h.1 63 i), h.2) := by
  simp (disch := omega) only [F_M_change, ck_in, I_nat, Int.toNat_natCast, hw_s]
theorem prm_dec : ∀ t c : Fin 4, prm t c < 4 := by decide +kernel
theorem m_turnNow {l t : Nat} {h : MH} (hl : l < 512) (ht : t < 4) (T : RepT l h.1) : ∃ h', F_M_turnNow (I t) h = some h' ∧ RepT (tl l t) h'.1 ∧ ScM h h' := by
  obtain ⟨o, d⟩ := T
  have td : ∀ c, c < 4 → dig (tl l t) c = dig l (prm t c) := fun c hc => tdg_dec ⟨l, hl⟩ ⟨t, ht⟩ ⟨c, hc⟩
  have to : tl l t / 256 = if t = 3 then 1 - l / 256 else l / 256 := tdo_dec ⟨l, hl⟩ ⟨t, ht⟩
  have lo : l / 256 < 2 := by omega
  have d0 := d 0 (by omega)
  have d1 := d 1 (by omega)
  have d2 := d 2 (by omega)
  have d3 := d 3 (by omega)
  have k02 := fun (g : MH) => m_change (i := 0) (j := 2) (h := g) (by omega) (by omega)
  have k13 := fun (g : MH) => m_change (i := 1) (j := 3) (h := g) (by omega) (by omega)
  have k01 := fun (g : MH) => m_change (i := 0) (j := 1) (h := g) (by omega) (by omega)
  have k23 := fun (g : MH) => m_change (i := 2) (j := 3) (h := g) (by omega) (by omega)
  have k02' : ∀ g : MH, F_M_change (I 0) (I 2) g = _ := k02
  have k13' : ∀ g : MH, F_M_change (I 1) (I 3) g = _ := k13
  have k01' : ∀ g : MH, F_M_change (I 0) (I 1) g = _ := k01
  have k23' : ∀ g : MH, F_M_change (I 2) (I 3) g = _ := k23
  have c4 : ∀ c, c < 4 → c = 0 ∨ c = 1 ∨ c = 2 ∨ c = 3 := fun c hc => by omega
  rcases c4 t ht with rfl | rfl | rfl | rfl
  · refine ⟨(mm_hset (mm_hset (mm_hset (mm_hset h.1 63 0 (h.1 63 2)) 63 2 (h.1 63 0)) 63 1 (h.1 63 3)) 63 3 (h.1 63 1), h.2), ?_, ⟨?_, fun c hc => ?_⟩, fun k i e => ?_⟩
    · simp (disch := omega) only [F_M_turnNow, I_eq, if_pos (show ((0 : Nat) : Int) = 0 by omega), k02', k13', bd_s, hs_ne]
    · simp (disch := omega) only [hs_ne]
      rw [to]
      exact o
    · rw [td c hc]
      rcases c4 c hc with rfl | rfl | rfl | rfl <;> simp (disch := omega) only [hs_ne, hs_eq] <;> first | exact d0 | exact d1 | exact d2 | exact d3
    · have : ¬ k = 63 := by
        rintro rfl
        exact absurd e (by unfold scM; simp)
      simp (disch := omega) only [hs_ne]
  · refine ⟨(mm_hset (mm_hset (mm_hset (mm_hset h.1 63 0 (h.1 63 1)) 63 1 (h.1 63 0)) 63 2 (h.1 63 3)) 63 3 (h.1 63 2), h.2), ?_, ⟨?_, fun c hc => ?_⟩, fun k i e => ?_⟩
    · simp (disch := omega) only [F_M_turnNow, I_eq, if_neg (show ¬ ((1 : Nat) : Int) = 0 by omega), if_pos (show ((1 : Nat) : Int) = 1 by omega), k01', k23', bd_s, hs_ne]
    · simp (disch := omega) only [hs_ne]
      rw [to]
      exact o
    · rw [td c hc]
      rcases c4 c hc with rfl | rfl | rfl | rfl <;> simp (disch := omega) only [hs_ne, hs_eq] <;> first | exact d0 | exact d1 | exact d2 | exact d3
    · have : ¬ k = 63 := by
        rintro rfl
        exact absurd e (by unfold scM; simp)
      simp (disch := omega) only [hs_ne]
  · have z0 : (0 : Int).toNat = 0 := rfl
    have z1 : (1 : Int).toNat = 1 := rfl
    have z2 : (2 : Int).toNat = 2 := rfl
    have z3 : (3 : Int).toNat = 3 := rfl
    refine ⟨(mm_hset (mm_hset (mm_hset (mm_hset h.1 63 0 (h.1 63 2)) 63 2 (h.1 63 3)) 63 3 (h.1 63 1)) 63 1 (h.1 63 0), h.2), ?_, ⟨?_, fun c hc => ?_⟩, fun k i e => ?_⟩
    · simp (disch := omega) only [F_M_turnNow, I_eq, if_neg (show ¬ ((2 : Nat) : Int) = 0 by omega), if_neg (show ¬ ((2 : Nat) : Int) = 1 by omega), if_pos (show ((2 : Nat) : Int) = 2 by omega), ck_in, I_nat, z0, z1, z2, z3, hw_s, hs_ne]
    · simp (disch := omega) only [hs_ne]
      rw [to]
      exact o
    · rw [td c hc]
      rcases c4 c hc with rfl | rfl | rfl | rfl <;> simp (disch := omega) only [hs_ne, hs_eq] <;> first | exact d0 | exact d1 | exact d2 | exact d3
    · have : ¬ k = 63 := by
        rintro rfl
        exact absurd e (by unfold scM; simp)
      simp (disch := omega) only [hs_ne]
  · have ov : (if ¬ h.1 55 13 = 0 then I 0 else I 1) = I ((1 - l / 256 : Nat) : Int) := by
      rw [o]
      rcases (show l / 256 = 0 ∨ l / 256 = 1 by omega) with q | q <;> rw [q] <;> rfl
    refine ⟨(mm_hset (mm_hset (mm_hset (mm_hset (mm_hset h.1 63 0 (h.1 63 1)) 63 1 (h.1 63 0)) 63 2 (h.1 63 3)) 63 3 (h.1 63 2)) 55 13 (I ((1 - l / 256 : Nat) : Int)), h.2), ?_, ⟨?_, fun c hc => ?_⟩, fun k i e => ?_⟩
    · simp (disch := omega) only [F_M_turnNow, I_eq, if_neg (show ¬ ((3 : Nat) : Int) = 0 by omega), if_neg (show ¬ ((3 : Nat) : Int) = 1 by omega), if_neg (show ¬ ((3 : Nat) : Int) = 2 by omega), k01', k23', bd_s, hs_ne, hw_s, iw_s]
      rw [ov]
      refine cd_t ?_
      rcases (show l / 256 = 0 ∨ l / 256 = 1 by omega) with q | q <;> rw [q] <;> decide
    · rw [to, if_pos rfl]
      simp only [hs_eq]
    · rw [td c hc]
      rcases c4 c hc with rfl | rfl | rfl | rfl <;> simp (disch := omega) only [hs_ne, hs_eq] <;> first | exact d0 | exact d1 | exact d2 | exact d3
    · have : ¬ k = 63 := by
        rintro rfl
        exact absurd e (by unfold scM; simp)
      have : ¬ (k = 55 ∧ i = 13) := by
        rintro ⟨rfl, rfl⟩
        exact absurd e (by decide)
      simp (disch := omega) only [hs_ne]
