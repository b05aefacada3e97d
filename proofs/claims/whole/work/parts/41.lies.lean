-- the lies
def tl (l t : Nat) : Nat :=
  let d := fun j => dig l ((([[2, 3, 0, 1], [1, 0, 3, 2], [2, 0, 3, 1], [1, 0, 3, 2]] : List (List Nat)).getD t []).getD j 0)
  (if t = 3 then (l / 256 + 1) % 2 else l / 256) * 256 + d 0 + 4 * d 1 + 16 * d 2 + 64 * d 3
def tdig (x : Int32) (t j : Nat) : Int32 := (x >>> ((I 2 * Int32.ofInt (mm_fr.getD (4 * t + j) 0)) &&& 31)) &&& I 3
def tlv (x : Int32) (t : Nat) : Int32 :=
  let v := ((((x &&& I 256) ||| (tdig x t 0 <<< ((I 2 * I 0) &&& 31))) ||| (tdig x t 1 <<< ((I 2 * I 1) &&& 31))) ||| (tdig x t 2 <<< ((I 2 * I 2) &&& 31))) ||| (tdig x t 3 <<< ((I 2 * I 3) &&& 31))
  if ¬ t = 3 then v else v ^^^ I 256
theorem tl_dec : ∀ l : Fin 512, ∀ t : Fin 4, tlv (I ((l : Nat) : Int)) t = I ((tl l t : Nat) : Int) := by decide +kernel
theorem tl_ok : ∀ l : Fin 512, ∀ t : Fin 4, okLie l = true → okLie (tl l t) = true := by decide +kernel
theorem tl_lt : ∀ l : Fin 512, ∀ t : Fin 4, tl l t < 512 := by decide +kernel
theorem ok_lt {l : Nat} (h : okLie l = true) : l < 512 := by
  unfold okLie at h
  rw [Bool.and_eq_true] at h
  exact of_decide_eq_true h.1
section LI
variable {h : MH}
theorem c_noTurn_t {t : Int} (h1 : 0 ≤ t) (h2 : t < 4) : F_C_noTurn (I t) h = some (I 0, h) := by
  simp (disch := omega) only [F_C_noTurn, zero_I, I_lt, if_neg (show ¬ t < 0 by omega), if_pos h2, iw_s]
  exact cd_t (by decide)
theorem c_noTurn_f {t : Int} (e : i32 t) (hn : ¬ (0 ≤ t ∧ t < 4)) : F_C_noTurn (I t) h = some (I 1, h) := by
  obtain ⟨l, g⟩ := e
  by_cases c : t < 0
  · simp (disch := omega) only [F_C_noTurn, zero_I, I_lt, if_pos c, iw_s]
    exact cd_t (by decide)
  · simp (disch := omega) only [F_C_noTurn, zero_I, I_lt, if_neg c, if_neg (show ¬ t < 4 by omega), iw_s]
    exact cd_t (by decide)
theorem l_turned {x acc : Int32} {t j n : Nat} (ht : t < 4) (hj : j < 4) : L_L_turned_17 x (I t) (n + 1) acc (I j) h = L_L_turned_17 x (I t) n (acc ||| (tdig x t j <<< ((I 2 * I j) &&& 31))) (I ((j + 1 : Nat) : Int)) h := by
  have e : (4 * (t : Int) + (j : Int)).toNat = 4 * t + j := by omega
  simp (disch := omega) only [L_L_turned_17, I_le, if_neg (show ¬ (4 : Int) ≤ (j : Int) by omega), I_mul, I_add, ck_in, I_nat, e, F_L_cornerAt, bd_s]
  rfl
theorem l_turned_end {x acc : Int32} {t n : Nat} : L_L_turned_17 x (I t) (n + 1) acc (I ((0 + 1 + 1 + 1 + 1 : Nat) : Int)) h = some (acc, h) := by
  simp (disch := omega) only [L_L_turned_17, I_le]
  rw [if_pos (by omega)]
theorem c_turned {l t : Nat} (hl : l < 512) (ht : t < 4) : F_L_turned (I l) (I t) h = some (I ((tl l t : Nat) : Int), h) := by
  have d := tl_dec ⟨l, hl⟩ ⟨t, ht⟩
  have d' : tlv (I l) t = I ((tl l t : Nat) : Int) := d
  have g : ∀ acc, L_L_turned_17 (I l) (I t) 5000 acc (I 0) h = some ((((acc ||| (tdig (I l) t 0 <<< ((I 2 * I 0) &&& 31))) ||| (tdig (I l) t 1 <<< ((I 2 * I 1) &&& 31))) ||| (tdig (I l) t 2 <<< ((I 2 * I 2) &&& 31))) ||| (tdig (I l) t 3 <<< ((I 2 * I 3) &&& 31)), h) := by
    intro acc
    rw [show L_L_turned_17 (I l) (I t) 5000 acc (I 0) h = L_L_turned_17 (I l) (I t) (4995 + 1 + 1 + 1 + 1 + 1) acc (I ((0 : Nat) : Int)) h from rfl, l_turned ht (by omega), l_turned ht (by omega), l_turned ht (by omega), l_turned ht (by omega)]
    exact l_turned_end
  simp (disch := omega) only [F_L_turned, c_noTurn_t (show (0:Int) ≤ (t : Int) by omega) (by omega), bd_s, zero_I, if_true, g, I_eq, iw_s]
  rw [← d']
  unfold tlv
  by_cases c : t = 3
  · rw [if_neg (show ¬ ¬ t = 3 by omega), if_neg (show ¬ ¬ (t : Int) = 3 by omega)]
  · rw [if_pos c, if_pos (show ¬ (t : Int) = 3 by omega)]
end LI
