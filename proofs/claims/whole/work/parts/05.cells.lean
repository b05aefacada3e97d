-- fields, arrays
set_option maxRecDepth 100000 in
theorem mm_clw : ∀ c, c < 13 → ∀ w ∈ (match vwCl[c]? with | some q => u_ws q.1 q.2.1 q.2.2 | none => []), w ∈ lw_g := by decide +kernel
theorem mm_clW {ci : Nat} {C : String} {T : u_T} {N : Nat} (h : vwCl[ci]? = some (C, T, N)) : ∀ w ∈ u_ws C T N, w ∈ lw_g := by
  have hl : ci < 13 := (List.getElem?_eq_some_iff.mp h).1
  have := mm_clw ci hl
  rw [h] at this
  exact this
theorem mm_clT {ci : Nat} {C : String} {T : u_T} {N : Nat} (h : vwCl[ci]? = some (C, T, N)) : ∃ ty : Nat → FieldType, (∀ k, k < N → parseFieldDescriptor (T k).2.2.1 = some (ty k)) ∧ (∀ a, a < N → ∀ b, b < N → a ≠ b → (T a).2.1 ≠ (T b).2.1) := by
  have hl : ci < 13 := (List.getElem?_eq_some_iff.mp h).1
  rcases (show ci = 0 ∨ ci = 1 ∨ ci = 2 ∨ ci = 3 ∨ ci = 4 ∨ ci = 5 ∨ ci = 6 ∨ ci = 7 ∨ ci = 8 ∨ ci = 9 ∨ ci = 10 ∨ ci = 11 ∨ ci = 12 by omega) with rfl | rfl | rfl | rfl | rfl | rfl | rfl | rfl | rfl | rfl | rfl | rfl | rfl <;> cases h
  · exact ⟨tyX0, tyX0_ok, nmX0⟩
  · exact ⟨tyX1, fun k hk => absurd hk (Nat.not_lt_zero k), fun a ha => absurd ha (Nat.not_lt_zero a)⟩
  · exact ⟨tyX2, fun k hk => absurd hk (Nat.not_lt_zero k), fun a ha => absurd ha (Nat.not_lt_zero a)⟩
  · exact ⟨tyX3, tyX3_ok, nmX3⟩
  · exact ⟨tyX4, tyX4_ok, nmX4⟩
  · exact ⟨tyX5, tyX5_ok, nmX5⟩
  · exact ⟨tyX6, fun k hk => absurd hk (Nat.not_lt_zero k), fun a ha => absurd ha (Nat.not_lt_zero a)⟩
  · exact ⟨tyX7, tyX7_ok, nmX7⟩
  · exact ⟨tyX8, fun k hk => absurd hk (Nat.not_lt_zero k), fun a ha => absurd ha (Nat.not_lt_zero a)⟩
  · exact ⟨tyX9, fun k hk => absurd hk (Nat.not_lt_zero k), fun a ha => absurd ha (Nat.not_lt_zero a)⟩
  · exact ⟨tyX10, fun k hk => absurd hk (Nat.not_lt_zero k), fun a ha => absurd ha (Nat.not_lt_zero a)⟩
  · exact ⟨tyX11, tyX11_ok, nmX11⟩
  · exact ⟨tyX12, tyX12_ok, nmX12⟩
set_option maxRecDepth 100000 in
theorem mm_clN : ∀ c, c < 13 → (vwCl[c]?).map (fun q => q.1) = some (mm_cn c) := by decide +kernel
theorem mm_clNm {ci : Nat} {C : String} {T : u_T} {N : Nat} (h : vwCl[ci]? = some (C, T, N)) : C = mm_cn ci := by
  have := mm_clN ci (List.getElem?_eq_some_iff.mp h).1
  rw [h] at this
  exact Option.some.inj this
/-- the shapes fit the classes -/
def mm_shc (k : Nat) : Bool := match mm_sh k with
  | .inr (.inl (ci, fl)) => (match vwCl[ci]? with
    | some (_, T, N) => decide (fl.length = N) && (List.range N).all (fun b => match fl[b]? with
      | some none => decide ((T b).2.2.1 = "I" ∨ (T b).2.2.1 = "Z")
      | some (some _) => true
      | none => false)
    | none => false)
  | .inr (.inr (.inr t)) => decide (t = mm_fr)
  | .inr (.inr (.inl (_, t))) => decide (t = 1 ∨ t = 2)
  | _ => true
set_option maxRecDepth 100000 in
theorem mm_shC : ∀ k, k < mm_NP + 1 → mm_shc k = true := by decide +kernel
theorem mm_shO {k ci : Nat} {fl : List (Option (Option Nat))} (hk : k < mm_NP) (h : mm_sh k = .inr (.inl (ci, fl))) : ∃ C T N, vwCl[ci]? = some (C, T, N) ∧ fl.length = N ∧ ∀ b, fl[b]? = some none → ((T b).2.2.1 = "I" ∨ (T b).2.2.1 = "Z") := by
  have h1 := mm_shC k (by omega)
  unfold mm_shc at h1
  rw [h] at h1
  dsimp only at h1
  cases hv : vwCl[ci]? with
  | none => rw [hv] at h1; cases h1
  | some q =>
    obtain ⟨C, T, N⟩ := q
    rw [hv] at h1
    dsimp only at h1
    rw [Bool.and_eq_true] at h1
    refine ⟨C, T, N, rfl, of_decide_eq_true h1.1, fun b hb => ?_⟩
    have hl : b < N := by rw [← of_decide_eq_true h1.1]; exact (List.getElem?_eq_some_iff.mp hb).1
    have h2 := List.all_eq_true.mp h1.2 b (List.mem_range.mpr hl)
    rw [hb] at h2
    exact of_decide_eq_true h2
theorem mm_fckI {own : String} {ix a b c : Nat} {z : Int} {put : Bool} (h : mm_fck own ix a b c z put = true) : ∃ C T N, vwCl[a]? = some (C, T, N) ∧ b < N ∧ (T b).1 = C ∧ (put = true → (T b).2.2.2 = false ∧ ((z = 2 ∨ z = 3) ↔ (T b).2.2.1 = "Z")) ∧ (Cond.fieldLinkNest own ix C (T b).2.1 (T b).2.2.1 "BothCorners" ∈ lw_tbl ∨ Cond.fieldLink own ix C (T b).2.1 (T b).2.2.1 ∈ lw_tbl) := by
  unfold mm_fck at h
  cases hv : vwCl[a]? with
  | none => rw [hv] at h; cases h
  | some q =>
    obtain ⟨C, T, N⟩ := q
    rw [hv] at h
    dsimp only at h
    rw [Bool.and_eq_true, Bool.and_eq_true, Bool.and_eq_true, Bool.and_eq_true] at h
    obtain ⟨⟨⟨⟨h1, h2⟩, h3⟩, h4⟩, h5⟩ := h
    refine ⟨C, T, N, rfl, of_decide_eq_true h1, of_decide_eq_true h2, fun hp => ?_, ?_⟩
    · subst hp
      refine ⟨by simpa using h3, ?_⟩
      have h6 : decide (z = 2 ∨ z = 3) = decide ((T b).2.2.1 = "Z") := by simpa using h4
      exact decide_eq_decide.mp h6
    · by_cases hz : z = 1 ∨ z = 3
      · rw [show decide (z = 1 ∨ z = 3) = true from decide_eq_true hz] at h5
        exact Or.inl (List.mem_of_getElem? (of_decide_eq_true h5))
      · rw [show decide (z = 1 ∨ z = 3) = false from decide_eq_false hz] at h5
        exact Or.inr (List.mem_of_getElem? (of_decide_eq_true h5))
theorem mm_entO {cy : Nat → ClassId} {ad : Nat → Nat} {h : MH} {k ci : Nat} {fl : List (Option (Option Nat))} (hk : k < mm_NP) (hs : mm_sh k = .inr (.inl (ci, fl))) : (mm_ws cy ad h)[k]? = some (ad k, .inr (ci, mm_fs ad h k 0 fl)) := by
  rw [mm_ws_at hk]
  unfold mm_ent
  rw [hs]
theorem mm_entI {cy : Nat → ClassId} {ad : Nat → Nat} {h : MH} {k n : Nat} (hk : k < mm_NP) (hs : mm_sh k = .inl n) : (mm_ws cy ad h)[k]? = some (ad k, .inl (cy 0, n, .inl (h.1 k))) := by
  rw [mm_ws_at hk]
  unfold mm_ent
  rw [hs]
theorem mm_entR {cy : Nat → ClassId} {ad : Nat → Nat} {h : MH} {k t : Nat} {rs : List (Option Nat)} (hk : k < mm_NP) (hs : mm_sh k = .inr (.inr (.inl (rs, t)))) : (mm_ws cy ad h)[k]? = some (ad k, .inl (cy t, rs.length, .inr (.inr (.inr (.inr (fun i => (rs.getD i none).map ad)))))) := by
  rw [mm_ws_at hk]
  unfold mm_ent
  rw [hs]
theorem mm_fs_len (ad : Nat → Nat) (h : MH) (k : Nat) : ∀ (fl : List (Option (Option Nat))) (j : Nat), (mm_fs ad h k j fl).length = fl.length
  | [], _ => rfl
  | _ :: l, j => by simp [mm_fs, mm_fs_len ad h k l (j + 1)]
/-- what stands elsewhere stays -/
theorem mm_ent_ne {cy : Nat → ClassId} {ad : Nat → Nat} {h h' : MH} {k : Nat} (e1 : h'.1 k = h.1 k) (e2 : ∀ j r, mm_rf h' k j r = mm_rf h k j r) : mm_ent cy ad h' k = mm_ent cy ad h k := by
  unfold mm_ent
  split
  · rw [e1]
  · rename_i ci fl _
    congr 2
    refine List.ext_getElem? (fun b => ?_)
    rw [mm_fs_at, mm_fs_at]
    congr 1
    funext f
    cases f with
    | none =>
      show Value.int (h'.1 k (0 + b)) = Value.int (h.1 k (0 + b))
      rw [e1]
    | some r =>
      show va_rf ((mm_rf h' k (0 + b) r).map ad) = va_rf ((mm_rf h k (0 + b) r).map ad)
      rw [e2]
  · rfl
  · rw [e1]
theorem mm_ws_set {cy : Nat → ClassId} {ad : Nat → Nat} {h h' : MH} {k : Nat} {e : va_E} (hk : k < mm_NP) (he : mm_ent cy ad h' k = e) (ho : ∀ j, j ≠ k → mm_ent cy ad h' j = mm_ent cy ad h j) : (mm_ws cy ad h).set k (ad k, e) = mm_ws cy ad h' := by
  refine List.ext_getElem? (fun j => ?_)
  by_cases hj : j < mm_NP
  · rw [mm_ws_at hj]
    by_cases hjk : j = k
    · subst hjk
      rw [List.getElem?_set_self (by unfold mm_ws; rw [List.length_map, List.length_range]; exact hj), he]
    · rw [List.getElem?_set_ne (Ne.symm hjk), mm_ws_at hj, ho j hjk]
  · have l1 : (mm_ws cy ad h').length ≤ j := by unfold mm_ws; rw [List.length_map, List.length_range]; omega
    rw [List.getElem?_eq_none l1, List.getElem?_eq_none (by rw [List.length_set]; unfold mm_ws; rw [List.length_map, List.length_range]; omega)]
theorem mm_hset_ne {f : Nat → Nat → Int32} {k i j : Nat} {x : Int32} (h : j ≠ k) : mm_hset f k i x j = f j := by
  funext q
  unfold mm_hset
  rw [if_neg (fun w => h w.1)]
theorem mm_hset_row (f : Nat → Nat → Int32) (k i : Nat) (x : Int32) : mm_hset f k i x k = upd (f k) i x := by
  funext q
  unfold mm_hset upd
  by_cases h : q = i
  · rw [if_pos ⟨rfl, h⟩, if_pos h]
  · rw [if_neg (fun w => h w.2), if_neg h]
theorem mm_ws_arr {cy : Nat → ClassId} {ad : Nat → Nat} {h : MH} {k n i : Nat} {x : Int32} (hk : k < mm_NP) (hs : mm_sh k = .inl n) : (mm_ws cy ad h).set k (ad k, .inl (cy 0, n, .inl (upd (h.1 k) i x))) = mm_ws cy ad (mm_hset h.1 k i x, h.2) := by
  refine mm_ws_set hk ?_ (fun j hj => mm_ent_ne (mm_hset_ne hj) (fun _ _ => rfl))
  unfold mm_ent
  rw [hs]
  dsimp only
  rw [mm_hset_row]
theorem mm_ws_cpy {cy : Nat → ClassId} {ad : Nat → Nat} {h : MH} {ks kd n sp dp m : Nat} (hk : kd < mm_NP) (hs : mm_sh kd = .inl n) : (mm_ws cy ad h).set kd (ad kd, .inl (cy 0, n, .inl (va_cpy (h.1 ks) (h.1 kd) sp dp m))) = mm_ws cy ad (mm_hcpy h.1 ks kd sp dp m, h.2) := by
  refine mm_ws_set hk ?_ (fun j hj => mm_ent_ne (by show mm_hcpy h.1 ks kd sp dp m j = h.1 j; unfold mm_hcpy; rw [if_neg hj]) (fun _ _ => rfl))
  unfold mm_ent
  rw [hs]
  dsimp only
  unfold mm_hcpy
  rw [if_pos rfl]
theorem mm_ws_fld {cy : Nat → ClassId} {ad : Nat → Nat} {h : MH} {k ci b : Nat} {fl : List (Option (Option Nat))} {x : Int32} (hk : k < mm_NP) (hs : mm_sh k = .inr (.inl (ci, fl))) (hb : fl[b]? = some none) : (mm_ws cy ad h).set k (ad k, .inr (ci, (mm_fs ad h k 0 fl).set b (.int x))) = mm_ws cy ad (mm_hset h.1 k b x, h.2) := by
  refine mm_ws_set hk ?_ (fun j hj => mm_ent_ne (mm_hset_ne hj) (fun _ _ => rfl))
  unfold mm_ent
  rw [hs]
  dsimp only
  congr 2
  refine List.ext_getElem? (fun q => ?_)
  have hbl := (List.getElem?_eq_some_iff.mp hb).1
  by_cases hq : q = b
  · subst hq
    rw [List.getElem?_set_self (by rw [mm_fs_len]; exact hbl), mm_fs_at, hb]
    simp [mm_fv, mm_hset]
  · rw [List.getElem?_set_ne (Ne.symm hq), mm_fs_at, mm_fs_at]
    congr 1
    funext f
    cases f with
    | none => simp [mm_fv, mm_hset, hq]
    | some r => rfl
theorem mm_ws_kept {cy : Nat → ClassId} {ad : Nat → Nat} {h : MH} {r : Option Nat} {ci : Nat} {fl : List (Option (Option Nat))} {q0 : Option Nat} (hs : mm_sh mm_kp = .inr (.inl (ci, fl))) (hb : fl[mm_kf]? = some (some q0)) : (mm_ws cy ad h).set mm_kp (ad mm_kp, .inr (ci, (mm_fs ad h mm_kp 0 fl).set mm_kf (va_rf (r.map ad)))) = mm_ws cy ad (h.1, r) := by
  refine mm_ws_set (by decide) ?_ (fun j hj => mm_ent_ne rfl (fun i r0 => ?_))
  · unfold mm_ent
    rw [hs]
    dsimp only
    congr 2
    refine List.ext_getElem? (fun q => ?_)
    have hbl := (List.getElem?_eq_some_iff.mp hb).1
    by_cases hq : q = mm_kf
    · subst hq
      rw [List.getElem?_set_self (by rw [mm_fs_len]; exact hbl), mm_fs_at, hb]
      rfl
    · rw [List.getElem?_set_ne (Ne.symm hq), mm_fs_at, mm_fs_at]
      congr 1
      funext f
      cases f with
      | none => rfl
      | some r0 =>
        unfold mm_fv mm_rf
        dsimp only
        rw [show Nat.beq (0 + q) mm_kf = false from mm_bne (by omega), Bool.and_false]
        rfl
  · unfold mm_rf
    rw [show Nat.beq j mm_kp = false from mm_bne hj]
    rfl
section MMF
variable {p : Program} {l : Launch} {e : Env} {R : Room} {s : State} {m : MethodId} {args : Array Value} {below : List Frame} {meth : Method} {c : Code} {Q : State → Prop}
variable {mid : Nat} {D : va_G} {cy : Nat → ClassId} {ad : Nat → Nat} {A : Nat → Prop} {call : MCl} {pc pc' n a b cw : Nat} {z : Int} {lo lo' : MLo} {st st' : List MV} {h0 h1 : MH}
def mm_fm (h : MH) (k b : Nat) (fo : Option (Option Nat)) : MV := match fo with
  | none => .inl (h.1 k b)
  | some r => .inr (.inl (mm_rf h k b r))
theorem mm_gfI {k : Nat} {h : MH} {f : MV → MAc} {q : MSt} (hh : mm_gf k a b h f = some q) : k < mm_NP ∧ ∃ fl fo, mm_sh k = .inr (.inl (a, fl)) ∧ fl[b]? = some fo ∧ f (mm_fm h k b fo) = some q := by
  unfold mm_gf at hh
  obtain ⟨h1, hh⟩ := mm_bin hh
  refine ⟨Nat.not_le.mp (fun w => by rw [Nat.ble_eq_true_of_le w] at h1; cases h1), ?_⟩
  split at hh
  · rename_i ci fl heq
    obtain ⟨h2, g⟩ := mm_bif hh
    clear hh
    have e2 := Nat.eq_of_beq_eq_true h2
    subst e2
    split at g
    · rename_i hb
      exact ⟨fl, none, heq, hb, g⟩
    · rename_i r hb
      exact ⟨fl, some r, heq, hb, g⟩
    · cases g
  · cases hh
theorem mm_s_getfield {ix : Nat} (C : mm_fix p s m args meth c mid D cy ad A) (hdg : decode (mm_by mid) pc = .ok (.getfield ix, 3)) (hc : mm_chi (mm_cn (mm_tc mid)) (.getfield ix) pc mid a b cw z = true) (h : mm_ac call pc lo st h0 (.getfield ix) n a b z = some (pc', lo', st', h1))
    (k : mm_K p l e R s m args below meth c Q D cy ad A (mm_ml mid) pc' lo' st' h1) : mm_K p l e R s m args below meth c Q D cy ad A (mm_ml mid) pc lo st h0 := by
  obtain ⟨hx, hb, hr, hml, hown, hts, hlocks, hK, hZT⟩ := C
  intro H locs fls hd hl
  obtain ⟨x, r, rfl, g9⟩ := mm_r1I h
  have h := g9
  obtain ⟨hx9, fl, fo, hs, hfo, h⟩ := mm_gfI h
  obtain ⟨rfl, rfl, rfl, rfl⟩ := mm_nxI h
  obtain ⟨C, T, N, hcl, hbN, hC, -, hw⟩ := mm_fckI hc
  have hv : (mm_fs ad h0 x 0 fl)[b]? = some (mm_fv ad h0 x b fo) := by rw [mm_fs_at, hfo, Nat.zero_add]; rfl
  have e9 : mm_v ad (mm_fm h0 x b fo) = mm_fv ad h0 x b fo := by cases fo <;> rfl
  have k2 := k H locs fls hd hl
  rw [List.map_cons, e9] at k2
  rcases hw with hw | hw
  · exact va_getN hx hb (mm_hg hts) (mm_clW hcl) hown hK hd.1 x (mm_entO hx9 hs) hcl b hbN (hts _ hw rfl) (fun y hy => by rw [hC] at hy; exact hy) hv hdg k2
  · exact va_get hx hb (mm_hg hts) (mm_clW hcl) hown hK hd.1 x (mm_entO hx9 hs) hcl b hbN (hts _ hw rfl) (fun y hy => by rw [hC] at hy; exact hy) hv hdg k2
theorem mm_pfI {k : Nat} {v : MV} {h : MH} {f : MH → MAc} {q : MSt} (hh : mm_pf k a b z v h f = some q) : k < mm_NP ∧ ∃ fl, mm_sh k = .inr (.inl (a, fl)) ∧
    ((∃ x, v = .inl x ∧ fl[b]? = some none ∧ (z < 2 ∨ x &&& 1 = x) ∧ f (mm_hset h.1 k b x, h.2) = some q) ∨ (∃ r q0, v = .inr (.inl r) ∧ k = mm_kp ∧ b = mm_kf ∧ z < 2 ∧ fl[b]? = some (some q0) ∧ f (h.1, r) = some q)) := by
  unfold mm_pf at hh
  obtain ⟨h1, hh⟩ := mm_bin hh
  refine ⟨Nat.not_le.mp (fun w => by rw [Nat.ble_eq_true_of_le w] at h1; cases h1), ?_⟩
  split at hh
  · rename_i ci fl heq
    obtain ⟨h2, g⟩ := mm_bif hh
    clear hh
    have e2 := Nat.eq_of_beq_eq_true h2
    subst e2
    refine ⟨fl, heq, ?_⟩
    split at g
    · rename_i hb
      obtain ⟨h3, g2⟩ := mm_bif g
      rw [Bool.or_eq_true] at h3
      exact Or.inl ⟨_, rfl, hb, h3.imp of_decide_eq_true of_decide_eq_true, g2⟩
    · rename_i hb
      obtain ⟨h3, g2⟩ := mm_bif g
      rw [Bool.and_eq_true, Bool.and_eq_true] at h3
      exact Or.inr ⟨_, _, rfl, Nat.eq_of_beq_eq_true h3.1.1, Nat.eq_of_beq_eq_true h3.1.2, of_decide_eq_true h3.2, hb, g2⟩
    · cases g
  · cases hh
theorem mm_and1 {x : Int32} (h : x &&& 1 = x) : fits .boolean (.int x) = true := by
  have h2 : x.toBitVec &&& 1#32 = x.toBitVec := congrArg Int32.toBitVec h
  have h3 : x.toBitVec = 0#32 ∨ x.toBitVec = 1#32 := by
    rw [← h2]
    rcases Nat.mod_two_eq_zero_or_one x.toBitVec.toNat with q | q
    · left
      apply BitVec.eq_of_toNat_eq
      simp [Nat.and_one_is_mod, q]
    · right
      apply BitVec.eq_of_toNat_eq
      simp [Nat.and_one_is_mod, q]
  rcases h3 with q | q
  · have : x = 0 := Int32.toBitVec_inj.mp q
    subst this
    decide
  · have : x = 1 := Int32.toBitVec_inj.mp q
    subst this
    decide
theorem mm_s_putfield {ix : Nat} (C : mm_fix p s m args meth c mid D cy ad A) (hdg : decode (mm_by mid) pc = .ok (.putfield ix, 3)) (hc : mm_chi (mm_cn (mm_tc mid)) (.putfield ix) pc mid a b cw z = true) (h : mm_ac call pc lo st h0 (.putfield ix) n a b z = some (pc', lo', st', h1))
    (k : mm_K p l e R s m args below meth c Q D cy ad A (mm_ml mid) pc' lo' st' h1) : mm_K p l e R s m args below meth c Q D cy ad A (mm_ml mid) pc lo st h0 := by
  obtain ⟨hx, hb, hr, hml, hown, hts, hlocks, hK, hZT⟩ := C
  intro H locs fls hd hl
  cases st with
  | nil => cases h
  | cons v r0 =>
  obtain ⟨x, r, rfl, g9⟩ := mm_r1I h
  have h := g9
  obtain ⟨hx9, fl, hs, hh⟩ := mm_pfI h
  obtain ⟨C, T, N, hcl, hbN, hC, hp, hw⟩ := mm_fckI hc
  obtain ⟨hfin, hz⟩ := hp rfl
  obtain ⟨C', T', N', hcl', hlen, hI⟩ := mm_shO hx9 hs
  cases hcl.symm.trans hcl'
  obtain ⟨ty, hty, hnm⟩ := mm_clT hcl
  have hsame : ∀ y, s.fieldFound? (T b).1 (T b).2.1 (T b).2.2.1 = some y → s.fieldFound? C (T b).2.1 (T b).2.2.1 = some y := fun y hy => by rw [hC] at hy; exact hy
  have hbl : b < (mm_fs ad h0 x 0 fl).length := by rw [mm_fs_len, hlen]; exact hbN
  rcases hh with ⟨y, rfl, hfo, hy, h⟩ | ⟨rr, q0, rfl, rfl, rfl, hz2, hfo, h⟩
  · obtain ⟨rfl, rfl, rfl, rfl⟩ := mm_nxI h
    obtain ⟨t0, ht0, hn0, hf0⟩ : ∃ t0, parseFieldDescriptor (T b).2.2.1 = some t0 ∧ narrow t0 (.int y) = .int y ∧ fits t0 (.int y) = true := by
      by_cases hZ : (T b).2.2.1 = "Z"
      · have hy1 : y &&& 1 = y := hy.elim (fun w => by have := hz.mpr hZ; omega) id
        exact ⟨.boolean, by rw [hZ]; decide +kernel, by show Value.int (y &&& 1) = _; rw [hy1], mm_and1 hy1⟩
      · exact ⟨.int, by rw [(hI b hfo).resolve_right hZ]; decide +kernel, rfl, rfl⟩
    have kk : ∀ (H1 : Heap) (locs1 : List Loc), va_P D vwCl ((mm_ws cy ad h0).set x (ad x, .inr (a, (mm_fs ad h0 x 0 fl).set b (.int y)))) H1 → va_D A ((mm_ws cy ad h0).set x (ad x, .inr (a, (mm_fs ad h0 x 0 fl).set b (.int y)))) → va_S A s.heap H1 locs1 → W p l e R s m args below meth c H1 locs1 0 0 Q (F0 m (pc + 3) fls (List.map (mm_v ad) r)) := by
      intro H1 locs1 g1 g2 g3
      rw [mm_ws_fld hx9 hs hfo] at g1 g2
      exact k H1 locs1 fls ⟨g1, g2, g3⟩ hl
    rcases hw with hw | hw
    · exact va_putN hx hb (mm_hg hts) (mm_clW hcl) ty hty hnm hown hK hd.1 hd.2.1 hd.2.2 x (mm_entO hx9 hs) hcl b hbN (hts _ hw rfl) hsame hfin ht0 hn0 hf0 hbl hdg kk
    · exact va_put hx hb (mm_hg hts) (mm_clW hcl) ty hty hnm hown hK hd.1 hd.2.1 hd.2.2 x (mm_entO hx9 hs) hcl b hbN (hts _ hw rfl) hsame hfin ht0 hn0 hf0 hbl hdg kk
  · obtain ⟨rfl, rfl, rfl, rfl⟩ := mm_nxI h
    have ea : a = 12 := by
      have e0 : mm_sh mm_kp = .inr (.inl (a, fl)) := hs
      have e1 : mm_cls mm_kp = some a := by unfold mm_cls; rw [e0]
      exact (Option.some.inj ((show mm_cls mm_kp = some 12 by decide +kernel).symm.trans e1)).symm
    subst ea
    have eT : T = TX12 := by cases hcl; rfl
    subst eT
    have kk : ∀ (H1 : Heap) (locs1 : List Loc), va_P D vwCl ((mm_ws cy ad h0).set mm_kp (ad mm_kp, .inr (12, (mm_fs ad h0 mm_kp 0 fl).set mm_kf (va_rf (rr.map ad))))) H1 → va_D A ((mm_ws cy ad h0).set mm_kp (ad mm_kp, .inr (12, (mm_fs ad h0 mm_kp 0 fl).set mm_kf (va_rf (rr.map ad))))) → va_S A s.heap H1 locs1 → W p l e R s m args below meth c H1 locs1 0 0 Q (F0 m (pc + 3) fls (List.map (mm_v ad) r)) := by
      intro H1 locs1 g1 g2 g3
      rw [mm_ws_kept hs hfo] at g1 g2
      exact k H1 locs1 fls ⟨g1, g2, g3⟩ hl
    have ht0 : parseFieldDescriptor (TX12 mm_kf).2.2.1 = some (.array .int) := by decide +kernel
    have hf0 : fits (.array .int) (va_rf (rr.map ad)) = true := by cases rr <;> rfl
    rcases hw with hw | hw
    · exact va_putN hx hb (mm_hg hts) (mm_clW hcl) ty hty hnm hown hK hd.1 hd.2.1 hd.2.2 mm_kp (mm_entO hx9 hs) hcl mm_kf hbN (hts _ hw rfl) hsame hfin ht0 rfl hf0 hbl hdg kk
    · exact va_put hx hb (mm_hg hts) (mm_clW hcl) ty hty hnm hown hK hd.1 hd.2.1 hd.2.2 mm_kp (mm_entO hx9 hs) hcl mm_kf hbN (hts _ hw rfl) hsame hfin ht0 rfl hf0 hbl hdg kk
theorem mm_s_getstatic {ix : Nat} (C : mm_fix p s m args meth c mid D cy ad A) (hdg : decode (mm_by mid) pc = .ok (.getstatic ix, 3)) (hc : mm_chi (mm_cn (mm_tc mid)) (.getstatic ix) pc mid a b cw z = true) (h : mm_ac call pc lo st h0 (.getstatic ix) n a b z = some (pc', lo', st', h1))
    (k : mm_K p l e R s m args below meth c Q D cy ad A (mm_ml mid) pc' lo' st' h1) : mm_K p l e R s m args below meth c Q D cy ad A (mm_ml mid) pc lo st h0 := by
  obtain ⟨hx, hb, hr, hml, hown, hts, hlocks, hK, hZT⟩ := C
  intro H locs fls hd hl
  have hw : Cond.fieldLink (mm_cn (mm_tc mid)) ix "BothCorners$Lies" "FROM" "[I" ∈ lw_tbl := List.mem_of_getElem? (of_decide_eq_true hc)
  obtain ⟨rfl, rfl, rfl, rfl⟩ := mm_nxI h
  exact va_gets hx hb hZT.1 hd.2.2 hown (hts _ hw rfl) (fun _ w => w) hdg (k H locs fls hd hl)
theorem mm_inI {i : Int32} {N : Nat} (h : mm_in i N = true) : vp_in i N := by
  have h2 : ¬ (i < 0 ∨ N ≤ i.toNatClampNeg) := of_decide_eq_true h
  exact h2
theorem mm_s_iaload (C : mm_fix p s m args meth c mid D cy ad A) (hdg : decode (mm_by mid) pc = .ok (.iaload, 1)) (h : mm_ac call pc lo st h0 .iaload n a b z = some (pc', lo', st', h1))
    (k : mm_K p l e R s m args below meth c Q D cy ad A (mm_ml mid) pc' lo' st' h1) : mm_K p l e R s m args below meth c Q D cy ad A (mm_ml mid) pc lo st h0 := by
  obtain ⟨hx, hb, hr, hml, hown, hts, hlocks, hK, hZT⟩ := C
  intro H locs fls hd hl
  obtain ⟨i, r0, rfl, g9⟩ := mm_1I h
  have h := g9
  obtain ⟨x, r, rfl, g8⟩ := mm_r1I h
  have h := g8
  unfold mm_ia at h
  split at h
  · rename_i N hs
    obtain ⟨hi, h⟩ := mm_bif h
    rw [Bool.and_eq_true] at hi
    obtain ⟨rfl, rfl, rfl, rfl⟩ := mm_nxI h
    have hx9 : x < mm_NP := Nat.le_of_ble_eq_true hi.2
    exact va_iald hx hb hK hd.1 x 0 (mm_entI hx9 hs) rfl (mm_inI hi.1) hdg (k H locs fls hd hl)
  · rename_i t hs
    obtain ⟨hi, h⟩ := mm_bif h
    rw [Bool.and_eq_true] at hi
    obtain ⟨rfl, rfl, rfl, rfl⟩ := mm_nxI h
    have hx9 : x = mm_NP := Nat.eq_of_beq_eq_true hi.2
    subst hx9
    have ht : t = mm_fr := by
      have h1 := mm_shC mm_NP (by omega)
      unfold mm_shc at h1
      rw [hs] at h1
      exact of_decide_eq_true h1
    subst ht
    exact va_ti hx hb hZT.2 hd.2.2 (mm_inI hi.1) rfl hdg (k H locs fls hd hl)
  · cases h
theorem mm_s_iastore (C : mm_fix p s m args meth c mid D cy ad A) (hdg : decode (mm_by mid) pc = .ok (.iastore, 1)) (h : mm_ac call pc lo st h0 .iastore n a b z = some (pc', lo', st', h1))
    (k : mm_K p l e R s m args below meth c Q D cy ad A (mm_ml mid) pc' lo' st' h1) : mm_K p l e R s m args below meth c Q D cy ad A (mm_ml mid) pc lo st h0 := by
  obtain ⟨hx, hb, hr, hml, hown, hts, hlocks, hK, hZT⟩ := C
  intro H locs fls hd hl
  obtain ⟨i, y, r0, rfl, g9⟩ := mm_2I h
  have h := g9
  obtain ⟨x, r, rfl, g8⟩ := mm_r1I h
  have h := g8
  unfold mm_is at h
  obtain ⟨h9, h⟩ := mm_bin h
  have hx9 : x < mm_NP := Nat.not_le.mp (fun w => by rw [Nat.ble_eq_true_of_le w] at h9; cases h9)
  split at h
  · rename_i N hs
    obtain ⟨hi, h⟩ := mm_bif h
    obtain ⟨rfl, rfl, rfl, rfl⟩ := mm_nxI h
    refine va_iast hx hb hK hd.1 hd.2.1 hd.2.2 x 0 (mm_entI hx9 hs) rfl (mm_inI hi) hdg (fun H1 locs1 g1 g2 g3 => ?_)
    rw [mm_ws_arr hx9 hs] at g1 g2
    exact k H1 locs1 fls ⟨g1, g2, g3⟩ hl
  · cases h
theorem mm_s_aaload (C : mm_fix p s m args meth c mid D cy ad A) (hdg : decode (mm_by mid) pc = .ok (.aaload, 1)) (h : mm_ac call pc lo st h0 .aaload n a b z = some (pc', lo', st', h1))
    (k : mm_K p l e R s m args below meth c Q D cy ad A (mm_ml mid) pc' lo' st' h1) : mm_K p l e R s m args below meth c Q D cy ad A (mm_ml mid) pc lo st h0 := by
  obtain ⟨hx, hb, hr, hml, hown, hts, hlocks, hK, hZT⟩ := C
  intro H locs fls hd hl
  obtain ⟨i, r0, rfl, g9⟩ := mm_1I h
  have h := g9
  obtain ⟨x, r, rfl, g8⟩ := mm_r1I h
  have h := g8
  unfold mm_aa at h
  obtain ⟨h9, h⟩ := mm_bin h
  have hx9 : x < mm_NP := Nat.not_le.mp (fun w => by rw [Nat.ble_eq_true_of_le w] at h9; cases h9)
  split at h
  · rename_i rs t hs
    obtain ⟨hi, h⟩ := mm_bif h
    obtain ⟨rfl, rfl, rfl, rfl⟩ := mm_nxI h
    have hin := mm_inI hi
    have hlt : i.toNatClampNeg < rs.length := Nat.not_le.mp fun q => hin (Or.inr q)
    have ht : t = 1 ∨ t = 2 := by
      have h1 := mm_shC x (by omega)
      unfold mm_shc at h1
      rw [hs] at h1
      exact of_decide_eq_true h1
    have k2 := k H locs fls hd hl
    rcases ht with rfl | rfl
    · exact va_aldq hx hb hK hd.1 x 1 (mm_entR hx9 hs) rfl hin hdg k2
    · exact W.aald (v := va_rf ((rs.getD i.toNatClampNeg none).map ad)) (ty := .array .int) hx hb (hd.1 x _ (mm_entR hx9 hs)) ((hK.2 2 _ rfl).1 rs.length (fun j => va_rf ((rs.getD j none).map ad))) rfl (fun q => by cases q) (by show ¬ (i < 0 ∨ (arrV _ _ _).slots.size ≤ _); rw [arrV_size]; exact hin) (by show (arrV _ _ _).slots[_]? = _; rw [arrV_read _ _ hlt]) rfl rfl hdg k2
  · cases h
theorem mm_s_arraylength (C : mm_fix p s m args meth c mid D cy ad A) (hdg : decode (mm_by mid) pc = .ok (.arraylength, 1)) (h : mm_ac call pc lo st h0 .arraylength n a b z = some (pc', lo', st', h1))
    (k : mm_K p l e R s m args below meth c Q D cy ad A (mm_ml mid) pc' lo' st' h1) : mm_K p l e R s m args below meth c Q D cy ad A (mm_ml mid) pc lo st h0 := by
  obtain ⟨hx, hb, hr, hml, hown, hts, hlocks, hK, hZT⟩ := C
  intro H locs fls hd hl
  obtain ⟨x, r, rfl, g9⟩ := mm_r1I h
  have h := g9
  unfold mm_al at h
  obtain ⟨h9, h⟩ := mm_bin h
  have hx9 : x < mm_NP := Nat.not_le.mp (fun w => by rw [Nat.ble_eq_true_of_le w] at h9; cases h9)
  split at h
  · rename_i N hs
    obtain ⟨rfl, rfl, rfl, rfl⟩ := mm_nxI h
    exact va_alen hx hb hK hd.1 x 0 (mm_entI hx9 hs) (ty := .int) rfl rfl hdg (k H locs fls hd hl)
  · cases h
end MMF
