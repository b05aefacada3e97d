-- a change is made: both sides' records
theorem getD_irr {l : List HS} {i : Nat} {d e : HS} (h : i < l.length) : l.getD i d = l.getD i e := by
  rw [List.getD_eq_getElem?_getD, List.getD_eq_getElem?_getD, List.getElem?_eq_getElem h]
  rfl
theorem getD_out {l : List HS} {i : Nat} {d : HS} (h : l.length ≤ i) : l.getD i d = d := by
  rw [List.getD_eq_getElem?_getD, List.getElem?_eq_none h]
  rfl
abbrev chS (S : SS) (N' : HS) : SS := (N', sI S, sLt S, sRw S, pushU (sU S) (sN S), sR S)
theorem RUn_push {S : SS} {h h1 h2 : MH} {N' : HS} {x y : Nat} {z : Int} (R : RUn S h) (L : (sU S).length ≤ 8) (C : CK S h h1 x y z) (hx : x < 3) (hy : y < 6) (h0 : x = 0 → y < nP N') (hb : x = 1 → y < nB N') (hz : 0 ≤ z) (hz2 : z < 2147483648)
    (eP : nP N' = nP (sN S)) (eB : nB N' = nB (sN S)) (u : sN S = unDo N' x y z) (e31 : h2.1 31 3 = h1.1 31 3) (e : ∀ k, 32 ≤ k → k ≤ 34 → h2.1 k = h1.1 k) : RUn (chS S N') h2 := by
  obtain ⟨r0, r1⟩ := R
  obtain ⟨c1, c2, c3, c4, c5⟩ := C
  have pl := pushU_len (U := sU S) (N := sN S)
  refine ⟨e31.trans c2, fun i hi => ?_⟩
  have hi' : i < (pushU (sU S) (sN S)).length := hi
  by_cases d : i + 1 = (pushU (sU S) (sN S)).length
  · obtain ⟨a1, a2, a3⟩ := c3 i d
    refine ⟨x, y, z, hx, hy, by rw [e 32 (by omega) (by omega)]; exact a1, by rw [e 33 (by omega) (by omega)]; exact a2, by rw [e 34 (by omega) (by omega)]; exact a3, h0, hb, hz, hz2, ?_⟩
    show (pushU (sU S) (sN S)).getD i N' = unDo ((pushU (sU S) (sN S)).getD (i + 1) N') x y z
    rw [pushU_get hi', if_pos d, getD_out (by omega)]
    exact u
  · have hlt : i + 1 < (pushU (sU S) (sN S)).length := by omega
    obtain ⟨j, hj⟩ : ∃ j, j = if (sU S).length = 8 then i + 1 else i := ⟨_, rfl⟩
    have jl : j < (sU S).length := by
      rw [hj]
      split at pl <;> split <;> omega
    have f := c4 i hlt
    rw [← hj] at f
    obtain ⟨X, Y, Z, b1, b2, b3, b4, b5, b6, b7, b8, b9, b10⟩ := r1 j jl
    refine ⟨X, Y, Z, b1, b2, by rw [e 32 (by omega) (by omega), f 32 (by omega) (by omega)]; exact b3, by rw [e 33 (by omega) (by omega), f 33 (by omega) (by omega)]; exact b4, by rw [e 34 (by omega) (by omega), f 34 (by omega) (by omega)]; exact b5, fun q => by show Y < nP N'; rw [eP]; exact b6 q, fun q => by show Y < nB N'; rw [eB]; exact b7 q, b8, b9, ?_⟩
    show (pushU (sU S) (sN S)).getD i N' = unDo ((pushU (sU S) (sN S)).getD (i + 1) N') X Y Z
    have g1 : (pushU (sU S) (sN S)).getD i N' = (sU S).getD j (sN S) := by
      rw [pushU_get hi', if_neg d, ← getD_irr (d := N') jl, hj]
      split <;> rfl
    have g2 : (pushU (sU S) (sN S)).getD (i + 1) N' = (sU S).getD (j + 1) (sN S) := by
      rw [pushU_get hlt]
      by_cases q : i + 1 + 1 = (pushU (sU S) (sN S)).length
      · rw [if_pos q, getD_out (by rw [hj]; split at pl <;> split <;> omega)]
      · rw [if_neg q]
        have jl2 : j + 1 < (sU S).length := by
          rw [hj]
          split at pl <;> split <;> omega
        rw [← getD_irr (d := N') jl2, hj]
        split <;> rfl
    rw [g1, g2]
    exact b10
theorem RUnM_push {S : SS} {h h1 h2 : MH} {N' : HS} (C : KT S h h1) (e30 : h2.1 55 30 = h1.1 55 30) (e : h2.1 70 = h1.1 70) : RUnM (chS S N') h2 := by
  obtain ⟨c1, c2, -⟩ := C
  refine ⟨e30.trans c1, fun i hi => ?_⟩
  have hi' : i < (pushU (sU S) (sN S)).length := hi
  show RepV ((pushU (sU S) (sN S)).getD i N') (fun j => h2.1 70 (52 * i + j))
  rw [getD_irr (e := sN S) hi', e]
  exact c2 i hi'
theorem InvS_push {S : SS} (J : InvS S) {N' : HS} (i1 : InvH N') (i2 : okLie (hLie N') = true) : InvS (chS S N') := by
  obtain ⟨J1, J2, J3, J4, J5, J6, J7, J8, J9⟩ := id J
  have pl := pushU_len (U := sU S) (N := sN S)
  refine ⟨i1, J2, J3, J4, J5, J6, ?_, pushU_inv J, i2⟩
  show (pushU (sU S) (sN S)).length ≤ 8
  split at pl <;> omega
