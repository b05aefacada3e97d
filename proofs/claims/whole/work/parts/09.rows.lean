-- rows of Go, an instruction each
def irem (x y : Int32) : Int32 := x - x / y * y
def lrem (x y : Int64) : Int64 := x - x / y * y
def iw {α : Type} (v : Int32) (f : Int32 → α) : α := f v
def lw {α : Type} (v : Int64) (f : Int64 → α) : α := f v
def hw {α : Type} (v : MH) (f : MH → α) : α := f v
def kw {α β : Type} (k : α) (f : α → β) : β := f k
theorem iw_I {α : Type} {v : Int32} {f : Int32 → Option α} {x : α} (h : iw v f = some x) : ∃ y, y = v ∧ f y = some x := ⟨v, rfl, h⟩
theorem lw_I {α : Type} {v : Int64} {f : Int64 → Option α} {x : α} (h : lw v f = some x) : ∃ y, y = v ∧ f y = some x := ⟨v, rfl, h⟩
theorem hw_I {α : Type} {v : MH} {f : MH → Option α} {x : α} (h : hw v f = some x) : ∃ y, y = v ∧ f y = some x := ⟨v, rfl, h⟩
theorem kw_I {α β : Type} {k : α} {f : α → Option β} {x : β} (h : kw k f = some x) : ∃ y, y = k ∧ f y = some x := ⟨k, rfl, h⟩
def ck {α : Type} (c : Bool) (x : Option α) : Option α := if c = true then x else none
theorem ck_I {α : Type} {c : Bool} {x : Option α} {y : α} (h : ck c x = some y) : c = true ∧ x = some y := by
  unfold ck at h
  split at h
  · exact ⟨by assumption, h⟩
  · cases h
def cd {α : Type} (c : Prop) [Decidable c] (x : Option α) : Option α := if c then x else none
theorem cd_I {α : Type} {c : Prop} [Decidable c] {x : Option α} {y : α} (h : cd c x = some y) : c ∧ x = some y := by
  unfold cd at h
  split at h
  · exact ⟨by assumption, h⟩
  · cases h
def bd {α β : Type} (x : Option α) (f : α → Option β) : Option β := match x with
  | some y => f y
  | none => none
theorem bd_I {α β : Type} {x : Option α} {f : α → Option β} {y : β} (h : bd x f = some y) : ∃ u, x = some u ∧ f u = some y := by
  unfold bd at h
  split at h
  · exact ⟨_, rfl, h⟩
  · cases h
def be {α β γ : Type} (x : Option (α ⊕ β)) (g : α → Option γ) (f : β → Option γ) : Option γ := match x with
  | some (.inl y) => g y
  | some (.inr y) => f y
  | none => none
theorem be_I {α β γ : Type} {x : Option (α ⊕ β)} {g : α → Option γ} {f : β → Option γ} {y : γ} (h : be x g f = some y) : (∃ u, x = some (.inl u) ∧ g u = some y) ∨ ∃ u, x = some (.inr u) ∧ f u = some y := by
  unfold be at h
  split at h
  · exact Or.inl ⟨_, rfl, h⟩
  · exact Or.inr ⟨_, rfl, h⟩
  · cases h
/-- which of the six ways -/
def w6 {α : Type} (i : Int32) (f : Nat → Option α) : Option α := if i = I 0 then f 2 else if i = I 1 then f 3 else if i = I 2 then f 4 else if i = I 3 then f 5 else if i = I 4 then f 6 else if i = I 5 then f 7 else none
theorem w6_I {α : Type} {i : Int32} {f : Nat → Option α} {y : α} (h : w6 i f = some y) : (i = I 0 ∧ f 2 = some y) ∨ (i = I 1 ∧ f 3 = some y) ∨ (i = I 2 ∧ f 4 = some y) ∨ (i = I 3 ∧ f 5 = some y) ∨ (i = I 4 ∧ f 6 = some y) ∨ (i = I 5 ∧ f 7 = some y) := by
  unfold w6 at h
  split at h
  · exact Or.inl ⟨by assumption, h⟩
  split at h
  · exact Or.inr (Or.inl ⟨by assumption, h⟩)
  split at h
  · exact Or.inr (Or.inr (Or.inl ⟨by assumption, h⟩))
  split at h
  · exact Or.inr (Or.inr (Or.inr (Or.inl ⟨by assumption, h⟩)))
  split at h
  · exact Or.inr (Or.inr (Or.inr (Or.inr (Or.inl ⟨by assumption, h⟩))))
  split at h
  · exact Or.inr (Or.inr (Or.inr (Or.inr (Or.inr ⟨by assumption, h⟩))))
  · cases h
theorem g_iconst {d mid pc q : Nat} {lo : MLo} {st : List MV} {h : MH} {r : MRs} {w a b cw : Nat} {z : Int} {v : Int} (hc : mm_code mid pc = some (.iconst v, w, a, b, cw, z)) (hq : pc + 1 = q) (k : Go d mid q lo (.inl (I v) :: st) h r) : Go d mid pc lo (st) h r := by
  subst hq
  exact go_step hc rfl (fun _ => rfl) k
theorem g_bipush {d mid pc q : Nat} {lo : MLo} {st : List MV} {h : MH} {r : MRs} {w a b cw : Nat} {z : Int} {v : Int} (hc : mm_code mid pc = some (.bipush v, w, a, b, cw, z)) (hv : (Int8.ofInt v).toInt32 = I v) (hq : pc + 2 = q) (k : Go d mid q lo (.inl (I v) :: st) h r) : Go d mid pc lo (st) h r := by
  subst hq
  exact go_step hc rfl (fun _ => by rw [← hv]; rfl) k
theorem g_sipush {d mid pc q : Nat} {lo : MLo} {st : List MV} {h : MH} {r : MRs} {w a b cw : Nat} {z : Int} {v : Int} (hc : mm_code mid pc = some (.sipush v, w, a, b, cw, z)) (hv : (Int16.ofInt v).toInt32 = I v) (hq : pc + 3 = q) (k : Go d mid q lo (.inl (I v) :: st) h r) : Go d mid pc lo (st) h r := by
  subst hq
  exact go_step hc rfl (fun _ => by rw [← hv]; rfl) k
theorem g_ldc {d mid pc q : Nat} {lo : MLo} {st : List MV} {h : MH} {r : MRs} {w a b cw : Nat} {z : Int} {ix : Nat} (hc : mm_code mid pc = some (.ldc ix, w, a, b, cw, z)) (hq : pc + 2 = q) (k : Go d mid q lo (.inl (I z) :: st) h r) : Go d mid pc lo (st) h r := by
  subst hq
  exact go_step hc rfl (fun _ => rfl) k
theorem g_ldc_w {d mid pc q : Nat} {lo : MLo} {st : List MV} {h : MH} {r : MRs} {w a b cw : Nat} {z : Int} {ix : Nat} (hc : mm_code mid pc = some (.ldc_w ix, w, a, b, cw, z)) (hq : pc + 3 = q) (k : Go d mid q lo (.inl (I z) :: st) h r) : Go d mid pc lo (st) h r := by
  subst hq
  exact go_step hc rfl (fun _ => rfl) k
theorem g_ldc2_w {d mid pc q : Nat} {lo : MLo} {st : List MV} {h : MH} {r : MRs} {w a b cw : Nat} {z : Int} {ix : Nat} (hc : mm_code mid pc = some (.ldc2_w ix, w, a, b, cw, z)) (hq : pc + 3 = q) (k : Go d mid q lo (.inr (.inr (Lg z)) :: st) h r) : Go d mid pc lo (st) h r := by
  subst hq
  exact go_step hc rfl (fun _ => rfl) k
theorem g_lconst {d mid pc q : Nat} {lo : MLo} {st : List MV} {h : MH} {r : MRs} {w a b cw : Nat} {z : Int} {v : Fin 2} {u : Int} (hc : mm_code mid pc = some (.lconst v, w, a, b, cw, z)) (hv : Int64.ofNat (v : Nat) = Lg u) (hq : pc + 1 = q) (k : Go d mid q lo (.inr (.inr (Lg u)) :: st) h r) : Go d mid pc lo (st) h r := by
  subst hq
  exact go_step hc rfl (fun _ => by rw [← hv]; rfl) k
theorem g_iload_n {d mid pc q : Nat} {lo : MLo} {st : List MV} {h : MH} {r : MRs} {w a b cw : Nat} {z : Int} {i : Fin 4} {x : Int32} (hc : mm_code mid pc = some (.iload_n i, w, a, b, cw, z)) (hl : lo (i : Nat) = some (.inl x)) (hq : pc + 1 = q) (k : Go d mid q lo (.inl x :: st) h r) : Go d mid pc lo (st) h r := by
  subst hq
  exact go_step hc rfl (fun _ => by show mm_li (lo (i : Nat)) _ = _; rw [hl]; rfl) k
theorem g_iload {d mid pc q : Nat} {lo : MLo} {st : List MV} {h : MH} {r : MRs} {w a b cw : Nat} {z : Int} {i : Nat} {x : Int32} (hc : mm_code mid pc = some (.iload i, w, a, b, cw, z)) (hl : lo i = some (.inl x)) (hq : pc + 2 = q) (k : Go d mid q lo (.inl x :: st) h r) : Go d mid pc lo (st) h r := by
  subst hq
  exact go_step hc rfl (fun _ => by show mm_li (lo i) _ = _; rw [hl]; rfl) k
theorem g_aload_n {d mid pc q : Nat} {lo : MLo} {st : List MV} {h : MH} {r : MRs} {w a b cw : Nat} {z : Int} {i : Fin 4} {x : Nat} (hc : mm_code mid pc = some (.aload_n i, w, a, b, cw, z)) (hl : lo (i : Nat) = some (.inr (.inl (some x)))) (hq : pc + 1 = q) (k : Go d mid q lo (.inr (.inl (some x)) :: st) h r) : Go d mid pc lo (st) h r := by
  subst hq
  exact go_step hc rfl (fun _ => by show mm_lr (lo (i : Nat)) _ = _; rw [hl]; rfl) k
theorem g_aload {d mid pc q : Nat} {lo : MLo} {st : List MV} {h : MH} {r : MRs} {w a b cw : Nat} {z : Int} {i : Nat} {x : Nat} (hc : mm_code mid pc = some (.aload i, w, a, b, cw, z)) (hl : lo i = some (.inr (.inl (some x)))) (hq : pc + 2 = q) (k : Go d mid q lo (.inr (.inl (some x)) :: st) h r) : Go d mid pc lo (st) h r := by
  subst hq
  exact go_step hc rfl (fun _ => by show mm_lr (lo i) _ = _; rw [hl]; rfl) k
theorem g_lload_n {d mid pc q : Nat} {lo : MLo} {st : List MV} {h : MH} {r : MRs} {w a b cw : Nat} {z : Int} {i : Fin 4} {x : Int64} (hc : mm_code mid pc = some (.lload_n i, w, a, b, cw, z)) (hl : lo (i : Nat) = some (.inr (.inr x))) (hq : pc + 1 = q) (k : Go d mid q lo (.inr (.inr x) :: st) h r) : Go d mid pc lo (st) h r := by
  subst hq
  exact go_step hc rfl (fun _ => by show mm_ll (lo (i : Nat)) _ = _; rw [hl]; rfl) k
theorem g_lload {d mid pc q : Nat} {lo : MLo} {st : List MV} {h : MH} {r : MRs} {w a b cw : Nat} {z : Int} {i : Nat} {x : Int64} (hc : mm_code mid pc = some (.lload i, w, a, b, cw, z)) (hl : lo i = some (.inr (.inr x))) (hq : pc + 2 = q) (k : Go d mid q lo (.inr (.inr x) :: st) h r) : Go d mid pc lo (st) h r := by
  subst hq
  exact go_step hc rfl (fun _ => by show mm_ll (lo i) _ = _; rw [hl]; rfl) k
theorem g_istore_n {d mid pc q : Nat} {lo : MLo} {st : List MV} {h : MH} {r : MRs} {w a b cw : Nat} {z : Int} {i : Fin 4} {x : Int32} (hc : mm_code mid pc = some (.istore_n i, w, a, b, cw, z)) (hq : pc + 1 = q) (k : Go d mid q (mm_set lo (i : Nat) (.inl x)) (st) h r) : Go d mid pc lo (.inl x :: st) h r := by
  subst hq
  exact go_step hc rfl (fun _ => rfl) k
theorem g_istore {d mid pc q : Nat} {lo : MLo} {st : List MV} {h : MH} {r : MRs} {w a b cw : Nat} {z : Int} {i : Nat} {x : Int32} (hc : mm_code mid pc = some (.istore i, w, a, b, cw, z)) (hq : pc + 2 = q) (k : Go d mid q (mm_set lo i (.inl x)) (st) h r) : Go d mid pc lo (.inl x :: st) h r := by
  subst hq
  exact go_step hc rfl (fun _ => rfl) k
theorem g_astore_n {d mid pc q : Nat} {lo : MLo} {st : List MV} {h : MH} {r : MRs} {w a b cw : Nat} {z : Int} {i : Fin 4} {x : Nat} (hc : mm_code mid pc = some (.astore_n i, w, a, b, cw, z)) (hq : pc + 1 = q) (k : Go d mid q (mm_set lo (i : Nat) (.inr (.inl (some x)))) (st) h r) : Go d mid pc lo (.inr (.inl (some x)) :: st) h r := by
  subst hq
  exact go_step hc rfl (fun _ => rfl) k
theorem g_lstore_n {d mid pc q : Nat} {lo : MLo} {st : List MV} {h : MH} {r : MRs} {w a b cw : Nat} {z : Int} {i : Fin 4} {x : Int64} (hc : mm_code mid pc = some (.lstore_n i, w, a, b, cw, z)) (hq : pc + 1 = q) (k : Go d mid q (mm_set2 lo (i : Nat) (.inr (.inr x))) (st) h r) : Go d mid pc lo (.inr (.inr x) :: st) h r := by
  subst hq
  exact go_step hc rfl (fun _ => rfl) k
theorem g_lstore {d mid pc q : Nat} {lo : MLo} {st : List MV} {h : MH} {r : MRs} {w a b cw : Nat} {z : Int} {i : Nat} {x : Int64} (hc : mm_code mid pc = some (.lstore i, w, a, b, cw, z)) (hq : pc + 2 = q) (k : Go d mid q (mm_set2 lo i (.inr (.inr x))) (st) h r) : Go d mid pc lo (.inr (.inr x) :: st) h r := by
  subst hq
  exact go_step hc rfl (fun _ => rfl) k
theorem g_iinc {d mid pc q : Nat} {lo : MLo} {st : List MV} {h : MH} {r : MRs} {a b cw : Nat} {z : Int} {i : Nat} {v : Int} {x : Int32} (hc : mm_code mid pc = some (.iinc i v, 3, a, b, cw, z)) (hl : lo i = some (.inl x)) (hq : pc + 3 = q) (k : Go d mid q (mm_set lo i (.inl (x + I v))) st h r) : Go d mid pc lo st h r := by
  subst hq
  exact go_step hc rfl (fun _ => by show mm_li (lo i) _ = _; rw [hl]; rfl) k
theorem g_iadd {d mid pc q : Nat} {lo : MLo} {st : List MV} {h : MH} {r : MRs} {w a b cw : Nat} {z : Int} {x y : Int32} (hc : mm_code mid pc = some (.iadd, w, a, b, cw, z)) (hq : pc + 1 = q) (k : Go d mid q lo (.inl (x + y) :: st) h r) : Go d mid pc lo (.inl y :: .inl x :: st) h r := by
  subst hq
  exact go_step hc rfl (fun _ => rfl) k
theorem g_isub {d mid pc q : Nat} {lo : MLo} {st : List MV} {h : MH} {r : MRs} {w a b cw : Nat} {z : Int} {x y : Int32} (hc : mm_code mid pc = some (.isub, w, a, b, cw, z)) (hq : pc + 1 = q) (k : Go d mid q lo (.inl (x - y) :: st) h r) : Go d mid pc lo (.inl y :: .inl x :: st) h r := by
  subst hq
  exact go_step hc rfl (fun _ => rfl) k
theorem g_imul {d mid pc q : Nat} {lo : MLo} {st : List MV} {h : MH} {r : MRs} {w a b cw : Nat} {z : Int} {x y : Int32} (hc : mm_code mid pc = some (.imul, w, a, b, cw, z)) (hq : pc + 1 = q) (k : Go d mid q lo (.inl (x * y) :: st) h r) : Go d mid pc lo (.inl y :: .inl x :: st) h r := by
  subst hq
  exact go_step hc rfl (fun _ => rfl) k
theorem g_iand {d mid pc q : Nat} {lo : MLo} {st : List MV} {h : MH} {r : MRs} {w a b cw : Nat} {z : Int} {x y : Int32} (hc : mm_code mid pc = some (.iand, w, a, b, cw, z)) (hq : pc + 1 = q) (k : Go d mid q lo (.inl (x &&& y) :: st) h r) : Go d mid pc lo (.inl y :: .inl x :: st) h r := by
  subst hq
  exact go_step hc rfl (fun _ => rfl) k
theorem g_ior {d mid pc q : Nat} {lo : MLo} {st : List MV} {h : MH} {r : MRs} {w a b cw : Nat} {z : Int} {x y : Int32} (hc : mm_code mid pc = some (.ior, w, a, b, cw, z)) (hq : pc + 1 = q) (k : Go d mid q lo (.inl (x ||| y) :: st) h r) : Go d mid pc lo (.inl y :: .inl x :: st) h r := by
  subst hq
  exact go_step hc rfl (fun _ => rfl) k
theorem g_ixor {d mid pc q : Nat} {lo : MLo} {st : List MV} {h : MH} {r : MRs} {w a b cw : Nat} {z : Int} {x y : Int32} (hc : mm_code mid pc = some (.ixor, w, a, b, cw, z)) (hq : pc + 1 = q) (k : Go d mid q lo (.inl (x ^^^ y) :: st) h r) : Go d mid pc lo (.inl y :: .inl x :: st) h r := by
  subst hq
  exact go_step hc rfl (fun _ => rfl) k
theorem g_ishl {d mid pc q : Nat} {lo : MLo} {st : List MV} {h : MH} {r : MRs} {w a b cw : Nat} {z : Int} {x y : Int32} (hc : mm_code mid pc = some (.ishl, w, a, b, cw, z)) (hq : pc + 1 = q) (k : Go d mid q lo (.inl (x <<< (y &&& 31)) :: st) h r) : Go d mid pc lo (.inl y :: .inl x :: st) h r := by
  subst hq
  exact go_step hc rfl (fun _ => rfl) k
theorem g_ishr {d mid pc q : Nat} {lo : MLo} {st : List MV} {h : MH} {r : MRs} {w a b cw : Nat} {z : Int} {x y : Int32} (hc : mm_code mid pc = some (.ishr, w, a, b, cw, z)) (hq : pc + 1 = q) (k : Go d mid q lo (.inl (x >>> (y &&& 31)) :: st) h r) : Go d mid pc lo (.inl y :: .inl x :: st) h r := by
  subst hq
  exact go_step hc rfl (fun _ => rfl) k
theorem g_iushr {d mid pc q : Nat} {lo : MLo} {st : List MV} {h : MH} {r : MRs} {w a b cw : Nat} {z : Int} {x y : Int32} (hc : mm_code mid pc = some (.iushr, w, a, b, cw, z)) (hq : pc + 1 = q) (k : Go d mid q lo (.inl ((x.toUInt32 >>> (y.toUInt32 &&& Int32.toUInt32 31)).toInt32) :: st) h r) : Go d mid pc lo (.inl y :: .inl x :: st) h r := by
  subst hq
  exact go_step hc rfl (fun _ => rfl) k
theorem g_idiv {d mid pc q : Nat} {lo : MLo} {st : List MV} {h : MH} {r : MRs} {w a b cw : Nat} {z : Int} {x y : Int32} (hc : mm_code mid pc = some (.idiv, w, a, b, cw, z)) (hy : ¬ y = 0) (hq : pc + 1 = q) (k : Go d mid q lo (.inl (x / y) :: st) h r) : Go d mid pc lo (.inl y :: .inl x :: st) h r := by
  subst hq
  exact go_step hc rfl (fun _ => by show (bif decide (y = 0) then none else _) = _; rw [decide_eq_false hy]; rfl) k
theorem g_irem {d mid pc q : Nat} {lo : MLo} {st : List MV} {h : MH} {r : MRs} {w a b cw : Nat} {z : Int} {x y : Int32} (hc : mm_code mid pc = some (.irem, w, a, b, cw, z)) (hy : ¬ y = 0) (hq : pc + 1 = q) (k : Go d mid q lo (.inl (irem x y) :: st) h r) : Go d mid pc lo (.inl y :: .inl x :: st) h r := by
  subst hq
  exact go_step hc rfl (fun _ => by show (bif decide (y = 0) then none else _) = _; rw [decide_eq_false hy]; rfl) k
theorem g_ineg {d mid pc q : Nat} {lo : MLo} {st : List MV} {h : MH} {r : MRs} {w a b cw : Nat} {z : Int} {x : Int32} (hc : mm_code mid pc = some (.ineg, w, a, b, cw, z)) (hq : pc + 1 = q) (k : Go d mid q lo (.inl (-x) :: st) h r) : Go d mid pc lo (.inl x :: st) h r := by
  subst hq
  exact go_step hc rfl (fun _ => rfl) k
theorem g_i2l {d mid pc q : Nat} {lo : MLo} {st : List MV} {h : MH} {r : MRs} {w a b cw : Nat} {z : Int} {x : Int32} (hc : mm_code mid pc = some (.i2l, w, a, b, cw, z)) (hq : pc + 1 = q) (k : Go d mid q lo (.inr (.inr x.toInt64) :: st) h r) : Go d mid pc lo (.inl x :: st) h r := by
  subst hq
  exact go_step hc rfl (fun _ => rfl) k
theorem g_lsub {d mid pc q : Nat} {lo : MLo} {st : List MV} {h : MH} {r : MRs} {w a b cw : Nat} {z : Int} {x y : Int64} (hc : mm_code mid pc = some (.lsub, w, a, b, cw, z)) (hq : pc + 1 = q) (k : Go d mid q lo (.inr (.inr (x - y)) :: st) h r) : Go d mid pc lo (.inr (.inr y) :: .inr (.inr x) :: st) h r := by
  subst hq
  exact go_step hc rfl (fun _ => rfl) k
theorem g_lmul {d mid pc q : Nat} {lo : MLo} {st : List MV} {h : MH} {r : MRs} {w a b cw : Nat} {z : Int} {x y : Int64} (hc : mm_code mid pc = some (.lmul, w, a, b, cw, z)) (hq : pc + 1 = q) (k : Go d mid q lo (.inr (.inr (x * y)) :: st) h r) : Go d mid pc lo (.inr (.inr y) :: .inr (.inr x) :: st) h r := by
  subst hq
  exact go_step hc rfl (fun _ => rfl) k
theorem g_ldiv {d mid pc q : Nat} {lo : MLo} {st : List MV} {h : MH} {r : MRs} {w a b cw : Nat} {z : Int} {x y : Int64} (hc : mm_code mid pc = some (.ldiv, w, a, b, cw, z)) (hy : ¬ y = 0) (hq : pc + 1 = q) (k : Go d mid q lo (.inr (.inr (x / y)) :: st) h r) : Go d mid pc lo (.inr (.inr y) :: .inr (.inr x) :: st) h r := by
  subst hq
  exact go_step hc rfl (fun _ => by show (bif decide (y = 0) then none else _) = _; rw [decide_eq_false hy]; rfl) k
theorem g_lrem {d mid pc q : Nat} {lo : MLo} {st : List MV} {h : MH} {r : MRs} {w a b cw : Nat} {z : Int} {x y : Int64} (hc : mm_code mid pc = some (.lrem, w, a, b, cw, z)) (hy : ¬ y = 0) (hq : pc + 1 = q) (k : Go d mid q lo (.inr (.inr (lrem x y)) :: st) h r) : Go d mid pc lo (.inr (.inr y) :: .inr (.inr x) :: st) h r := by
  subst hq
  exact go_step hc rfl (fun _ => by show (bif decide (y = 0) then none else _) = _; rw [decide_eq_false hy]; rfl) k
theorem g_lcmp {d mid pc q : Nat} {lo : MLo} {st : List MV} {h : MH} {r : MRs} {w a b cw : Nat} {z : Int} {x y : Int64} (hc : mm_code mid pc = some (.lcmp, w, a, b, cw, z)) (hq : pc + 1 = q) (k : Go d mid q lo (.inl (lg_cmp x y) :: st) h r) : Go d mid pc lo (.inr (.inr y) :: .inr (.inr x) :: st) h r := by
  subst hq
  exact go_step hc rfl (fun _ => rfl) k
theorem g_ifT {d mid pc : Nat} {lo : MLo} {st : List MV} {h : MH} {r : MRs} {w a b cw : Nat} {z : Int} {cnd : ClassFile.Cond} {off : Int} {x : Int32} (hc : mm_code mid pc = some (.ifCond cnd off, w, a, b, cw, z)) (hp : mm_c0 cnd x = true) (k : Go d mid a lo st h r) : Go d mid pc lo (.inl x :: st) h r := by
  refine go_step (pc' := a) hc rfl (fun _ => ?_) k
  show mm_nx (bif mm_c0 cnd x then a else pc + 3) lo st h = _
  rw [hp]
  rfl
theorem g_ifF {d mid pc q : Nat} {lo : MLo} {st : List MV} {h : MH} {r : MRs} {w a b cw : Nat} {z : Int} {cnd : ClassFile.Cond} {off : Int} {x : Int32} (hc : mm_code mid pc = some (.ifCond cnd off, w, a, b, cw, z)) (hp : mm_c0 cnd x = false) (hq : pc + 3 = q) (k : Go d mid q lo st h r) : Go d mid pc lo (.inl x :: st) h r := by
  subst hq
  refine go_step (pc' := pc + 3) hc rfl (fun _ => ?_) k
  show mm_nx (bif mm_c0 cnd x then a else pc + 3) lo st h = _
  rw [hp]
  rfl
theorem g_icmpT {d mid pc : Nat} {lo : MLo} {st : List MV} {h : MH} {r : MRs} {w a b cw : Nat} {z : Int} {cnd : ClassFile.Cond} {off : Int} {x y : Int32} (hc : mm_code mid pc = some (.if_icmp cnd off, w, a, b, cw, z)) (hp : mm_c2 cnd x y = true) (k : Go d mid a lo st h r) : Go d mid pc lo (.inl y :: .inl x :: st) h r := by
  refine go_step (pc' := a) hc rfl (fun _ => ?_) k
  show mm_nx (bif mm_c2 cnd x y then a else pc + 3) lo st h = _
  rw [hp]
  rfl
theorem g_icmpF {d mid pc q : Nat} {lo : MLo} {st : List MV} {h : MH} {r : MRs} {w a b cw : Nat} {z : Int} {cnd : ClassFile.Cond} {off : Int} {x y : Int32} (hc : mm_code mid pc = some (.if_icmp cnd off, w, a, b, cw, z)) (hp : mm_c2 cnd x y = false) (hq : pc + 3 = q) (k : Go d mid q lo st h r) : Go d mid pc lo (.inl y :: .inl x :: st) h r := by
  subst hq
  refine go_step (pc' := pc + 3) hc rfl (fun _ => ?_) k
  show mm_nx (bif mm_c2 cnd x y then a else pc + 3) lo st h = _
  rw [hp]
  rfl
theorem g_goto {d mid pc : Nat} {lo : MLo} {st : List MV} {h : MH} {r : MRs} {w a b cw : Nat} {z : Int} {off : Int} (hc : mm_code mid pc = some (.goto off, w, a, b, cw, z)) (k : Go d mid a lo st h r) : Go d mid pc lo st h r := go_step hc rfl (fun _ => rfl) k
theorem g_dup {d mid pc q : Nat} {lo : MLo} {st : List MV} {h : MH} {r : MRs} {w a b cw : Nat} {z : Int} {v : MV} (hc : mm_code mid pc = some (.dup, w, a, b, cw, z)) (hv : Nat.beq (mm_cat v) 1 = true) (hq : pc + 1 = q) (k : Go d mid q lo (v :: v :: st) h r) : Go d mid pc lo (v :: st) h r := by
  subst hq
  exact go_step hc rfl (fun _ => by show (bif Nat.beq (mm_cat v) 1 then _ else none) = _; rw [hv]; rfl) k
theorem g_dup2 {d mid pc q : Nat} {lo : MLo} {st : List MV} {h : MH} {r : MRs} {w a b cw : Nat} {z : Int} {v u : MV} (hc : mm_code mid pc = some (.dup2, w, a, b, cw, z)) (hv : (Nat.beq (mm_cat v) 1 && Nat.beq (mm_cat u) 1) = true) (hq : pc + 1 = q) (k : Go d mid q lo (v :: u :: v :: u :: st) h r) : Go d mid pc lo (v :: u :: st) h r := by
  subst hq
  exact go_step hc rfl (fun _ => by show (bif (Nat.beq (mm_cat v) 1 && Nat.beq (mm_cat u) 1) then _ else none) = _; rw [hv]; rfl) k
theorem g_pop {d mid pc q : Nat} {lo : MLo} {st : List MV} {h : MH} {r : MRs} {w a b cw : Nat} {z : Int} {v : MV} (hc : mm_code mid pc = some (.pop, w, a, b, cw, z)) (hv : Nat.beq (mm_cat v) 1 = true) (hq : pc + 1 = q) (k : Go d mid q lo (st) h r) : Go d mid pc lo (v :: st) h r := by
  subst hq
  exact go_step hc rfl (fun _ => by show (bif Nat.beq (mm_cat v) 1 then _ else none) = _; rw [hv]; rfl) k
theorem g_getI {d mid pc q : Nat} {lo : MLo} {st : List MV} {h : MH} {r : MRs} {w a b cw : Nat} {z : Int} {ix p : Nat} (hc : mm_code mid pc = some (.getfield ix, w, a, b, cw, z)) (hg : ∀ f : MV → MAc, mm_gf p a b h f = f (.inl (h.1 p b))) (hq : pc + 3 = q) (k : Go d mid q lo (.inl (h.1 p b) :: st) h r) : Go d mid pc lo (.inr (.inl (some p)) :: st) h r := by
  subst hq
  exact go_step hc rfl (fun _ => hg (fun v => mm_nx (pc + 3) lo (v :: st) h)) k
theorem g_getR {d mid pc q : Nat} {lo : MLo} {st : List MV} {h : MH} {r : MRs} {w a b cw : Nat} {z : Int} {ix p u : Nat} (hc : mm_code mid pc = some (.getfield ix, w, a, b, cw, z)) (hg : ∀ f : MV → MAc, mm_gf p a b h f = f (.inr (.inl (some u)))) (hq : pc + 3 = q) (k : Go d mid q lo (.inr (.inl (some u)) :: st) h r) : Go d mid pc lo (.inr (.inl (some p)) :: st) h r := by
  subst hq
  exact go_step hc rfl (fun _ => hg (fun v => mm_nx (pc + 3) lo (v :: st) h)) k
theorem g_getK {d mid pc q : Nat} {lo : MLo} {st : List MV} {h : MH} {r : MRs} {w a b cw : Nat} {z : Int} {ix p u : Nat} (hc : mm_code mid pc = some (.getfield ix, w, a, b, cw, z)) (hg : ∀ f : MV → MAc, mm_gf p a b h f = f (.inr (.inl h.2))) (hk : h.2 = some u) (hq : pc + 3 = q) (k : Go d mid q lo (.inr (.inl (some u)) :: st) h r) : Go d mid pc lo (.inr (.inl (some p)) :: st) h r := by
  subst hq
  exact go_step hc rfl (fun _ => by rw [← hk]; exact hg (fun v => mm_nx (pc + 3) lo (v :: st) h)) k
theorem g_putI {d mid pc q : Nat} {lo : MLo} {st : List MV} {h : MH} {r : MRs} {w a b cw : Nat} {z : Int} {ix p : Nat} {x : Int32} (hc : mm_code mid pc = some (.putfield ix, w, a, b, cw, z)) (hg : ∀ f : MH → MAc, mm_pf p a b z (.inl x) h f = f (mm_hset h.1 p b x, h.2)) (hq : pc + 3 = q) (k : Go d mid q lo (st) (mm_hset h.1 p b x, h.2) r) : Go d mid pc lo (.inl x :: .inr (.inl (some p)) :: st) h r := by
  subst hq
  exact go_step hc rfl (fun _ => hg _) k
theorem g_putZ {d mid pc q : Nat} {lo : MLo} {st : List MV} {h : MH} {r : MRs} {w a b cw : Nat} {z : Int} {ix p : Nat} {x : Int32} (hc : mm_code mid pc = some (.putfield ix, w, a, b, cw, z)) (hg : ∀ f : MH → MAc, mm_pf p a b z (.inl x) h f = bif decide (x &&& 1 = x) then f (mm_hset h.1 p b x, h.2) else none) (hx : x &&& 1 = x) (hq : pc + 3 = q) (k : Go d mid q lo (st) (mm_hset h.1 p b x, h.2) r) : Go d mid pc lo (.inl x :: .inr (.inl (some p)) :: st) h r := by
  subst hq
  exact go_step hc rfl (fun _ => (hg _).trans (by rw [decide_eq_true hx]; rfl)) k
theorem g_putK {d mid pc q : Nat} {lo : MLo} {st : List MV} {h : MH} {r : MRs} {w a b cw : Nat} {z : Int} {ix p : Nat} {u : Option Nat} (hc : mm_code mid pc = some (.putfield ix, w, a, b, cw, z)) (hg : ∀ f : MH → MAc, mm_pf p a b z (.inr (.inl u)) h f = f (h.1, u)) (hq : pc + 3 = q) (k : Go d mid q lo (st) (h.1, u) r) : Go d mid pc lo (.inr (.inl u) :: .inr (.inl (some p)) :: st) h r := by
  subst hq
  exact go_step hc rfl (fun _ => hg _) k
theorem g_getstatic {d mid pc q : Nat} {lo : MLo} {st : List MV} {h : MH} {r : MRs} {w a b cw : Nat} {z : Int} {ix : Nat} (hc : mm_code mid pc = some (.getstatic ix, w, a, b, cw, z)) (hq : pc + 3 = q) (k : Go d mid q lo (.inr (.inl (some mm_NP)) :: st) h r) : Go d mid pc lo (st) h r := by
  subst hq
  exact go_step hc rfl (fun _ => rfl) k
theorem g_iaload {d mid pc q : Nat} {lo : MLo} {st : List MV} {h : MH} {r : MRs} {w a b cw : Nat} {z : Int} {p N : Nat} {i : Int32} (hc : mm_code mid pc = some (.iaload, w, a, b, cw, z)) (hs : mm_sh p = .inl N) (hk : Nat.blt p mm_NP = true) (hi : mm_in i N = true) (hq : pc + 1 = q) (k : Go d mid q lo (.inl (h.1 p i.toNatClampNeg) :: st) h r) : Go d mid pc lo (.inl i :: .inr (.inl (some p)) :: st) h r := by
  subst hq
  exact go_step hc rfl (fun _ => by show mm_ia p i h (fun x => mm_nx (pc + 1) lo (.inl x :: st) h) = _; unfold mm_ia; rw [hs]; dsimp only; rw [hi, hk]; rfl) k
theorem g_tload {d mid pc q : Nat} {lo : MLo} {st : List MV} {h : MH} {r : MRs} {w a b cw : Nat} {z : Int} {p : Nat} {t : List Int} {i : Int32} (hc : mm_code mid pc = some (.iaload, w, a, b, cw, z)) (hs : mm_sh p = .inr (.inr (.inr t))) (hk : Nat.beq p mm_NP = true) (hi : mm_in i t.length = true) (hq : pc + 1 = q) (k : Go d mid q lo (.inl (Int32.ofInt (t.getD i.toNatClampNeg 0)) :: st) h r) : Go d mid pc lo (.inl i :: .inr (.inl (some p)) :: st) h r := by
  subst hq
  exact go_step hc rfl (fun _ => by show mm_ia p i h (fun x => mm_nx (pc + 1) lo (.inl x :: st) h) = _; unfold mm_ia; rw [hs]; dsimp only; rw [hi, hk]; rfl) k
theorem g_iastore {d mid pc q : Nat} {lo : MLo} {st : List MV} {h : MH} {r : MRs} {w a b cw : Nat} {z : Int} {p N : Nat} {i x : Int32} (hc : mm_code mid pc = some (.iastore, w, a, b, cw, z)) (hs : mm_sh p = .inl N) (hk : Nat.ble mm_NP p = false) (hi : mm_in i N = true) (hq : pc + 1 = q) (k : Go d mid q lo (st) (mm_hset h.1 p i.toNatClampNeg x, h.2) r) : Go d mid pc lo (.inl x :: .inl i :: .inr (.inl (some p)) :: st) h r := by
  subst hq
  exact go_step hc rfl (fun _ => by show mm_is p i x h (fun h2 => mm_nx (pc + 1) lo st h2) = _; unfold mm_is; rw [hk]; dsimp only [cond_false]; rw [hs]; dsimp only; rw [hi]; rfl) k
theorem g_aaload {d mid pc q : Nat} {lo : MLo} {st : List MV} {h : MH} {r : MRs} {w a b cw : Nat} {z : Int} {p t u : Nat} {rs : List (Option Nat)} {i : Int32} (hc : mm_code mid pc = some (.aaload, w, a, b, cw, z)) (hs : mm_sh p = .inr (.inr (.inl (rs, t)))) (hk : Nat.ble mm_NP p = false) (hi : mm_in i rs.length = true) (hu : rs.getD i.toNatClampNeg none = some u) (hq : pc + 1 = q) (k : Go d mid q lo (.inr (.inl (some u)) :: st) h r) : Go d mid pc lo (.inl i :: .inr (.inl (some p)) :: st) h r := by
  subst hq
  exact go_step hc rfl (fun _ => by show mm_aa p i (fun x => mm_nx (pc + 1) lo (.inr (.inl x) :: st) h) = _; unfold mm_aa; rw [hk]; dsimp only [cond_false]; rw [hs]; dsimp only; rw [hi, hu]; rfl) k
theorem g_alen {d mid pc q : Nat} {lo : MLo} {st : List MV} {h : MH} {r : MRs} {w a b cw : Nat} {z : Int} {p N : Nat} (hc : mm_code mid pc = some (.arraylength, w, a, b, cw, z)) (hs : mm_sh p = .inl N) (hk : Nat.ble mm_NP p = false) (hq : pc + 1 = q) (k : Go d mid q lo (.inl (Int32.ofNat N) :: st) h r) : Go d mid pc lo (.inr (.inl (some p)) :: st) h r := by
  subst hq
  exact go_step hc rfl (fun _ => by show mm_al p (fun x => mm_nx (pc + 1) lo (.inl x :: st) h) = _; unfold mm_al; rw [hk]; dsimp only [cond_false]; rw [hs]; rfl) k
theorem g_max {d mid pc q : Nat} {lo : MLo} {st : List MV} {h : MH} {r : MRs} {w b cw : Nat} {z : Int} {ix : Nat} {x y : Int32} (hc : mm_code mid pc = some (.invokestatic ix, w, 5, b, cw, z)) (hm : Nat.ble (mm_sum st) 8 = true) (hq : pc + 3 = q) (k : Go d mid q lo (.inl (if x < y then y else x) :: st) h r) : Go d mid pc lo (.inl y :: .inl x :: st) h r := by
  subst hq
  exact go_step hc rfl (fun _ => by show (bif Nat.ble (mm_sum st) 8 then _ else none) = _; rw [hm]; rfl) k
theorem g_min {d mid pc q : Nat} {lo : MLo} {st : List MV} {h : MH} {r : MRs} {w b cw : Nat} {z : Int} {ix : Nat} {x y : Int32} (hc : mm_code mid pc = some (.invokestatic ix, w, 6, b, cw, z)) (hm : Nat.ble (mm_sum st) 8 = true) (hq : pc + 3 = q) (k : Go d mid q lo (.inl (if y < x then y else x) :: st) h r) : Go d mid pc lo (.inl y :: .inl x :: st) h r := by
  subst hq
  exact go_step hc rfl (fun _ => by show (bif Nat.ble (mm_sum st) 8 then _ else none) = _; rw [hm]; rfl) k
theorem g_abs {d mid pc q : Nat} {lo : MLo} {st : List MV} {h : MH} {r : MRs} {w b cw : Nat} {z : Int} {ix : Nat} {x : Int32} (hc : mm_code mid pc = some (.invokestatic ix, w, 7, b, cw, z)) (hm : Nat.ble (mm_sum st) 8 = true) (hq : pc + 3 = q) (k : Go d mid q lo (.inl (if 0 ≤ x then x else 0 - x) :: st) h r) : Go d mid pc lo (.inl x :: st) h r := by
  subst hq
  exact go_step hc rfl (fun _ => by show (bif Nat.ble (mm_sum st) 8 then _ else none) = _; rw [hm]; rfl) k
theorem g_copy {d mid pc q : Nat} {lo : MLo} {st : List MV} {h : MH} {r : MRs} {w b cw : Nat} {z : Int} {ix kd ks ns nd : Nat} {n dp sp : Int32} (hc : mm_code mid pc = some (.invokestatic ix, w, 8, b, cw, z)) (hs1 : mm_sh ks = .inl ns) (hs2 : mm_sh kd = .inl nd) (hb : (Nat.blt ks mm_NP && Nat.blt kd mm_NP && decide (¬ sp < 0 ∧ ¬ dp < 0 ∧ ¬ n < 0 ∧ sp.toNatClampNeg + n.toNatClampNeg ≤ ns ∧ dp.toNatClampNeg + n.toNatClampNeg ≤ nd) && Nat.ble (mm_sum st) 8) = true) (hq : pc + 3 = q) (k : Go d mid q lo st (mm_hcpy h.1 ks kd sp.toNatClampNeg dp.toNatClampNeg n.toNatClampNeg, h.2) r) : Go d mid pc lo (.inl n :: .inl dp :: .inr (.inl (some kd)) :: .inl sp :: .inr (.inl (some ks)) :: st) h r := by
  subst hq
  refine go_step hc rfl (fun _ => ?_) k
  show mm_cp lo pc (.inl n :: .inl dp :: .inr (.inl (some kd)) :: .inl sp :: .inr (.inl (some ks)) :: st) h = _
  unfold mm_cp
  dsimp only
  rw [hs1, hs2]
  dsimp only
  rw [hb]
  rfl
theorem g_tsw {d mid pc : Nat} {lo : MLo} {st : List MV} {h : MH} {r : MRs} {w a b cw : Nat} {z : Int} {df lo1 hi1 : Int} {offs : Array Int} {x : Int32} {off : Int} {t : Nat} (hc : mm_code mid pc = some (.tableswitch df lo1 hi1 offs, w, a, b, cw, z)) (ho : mm_tsw df lo1 hi1 offs x = some off) (ht : (pc : Int) + off = (t : Int)) (k : Go d mid t lo st h r) : Go d mid pc lo (.inl x :: st) h r := by
  refine go_step (pc' := t) hc rfl (fun _ => ?_) k
  show (match mm_tsw df lo1 hi1 offs x with | some off => mm_tn ((pc : Int) + off) (fun t => mm_nx t lo st h) | none => none) = _
  rw [ho]
  dsimp only
  rw [ht]
  rfl
theorem g_lsw {d mid pc : Nat} {lo : MLo} {st : List MV} {h : MH} {r : MRs} {w a b cw : Nat} {z : Int} {df : Int} {ps : Array (Int × Int)} {x : Int32} {off : Int} {t : Nat} (hc : mm_code mid pc = some (.lookupswitch df ps, w, a, b, cw, z)) (ho : Op.lookupswitch.offset ps.toList df x.toInt = off) (ht : (pc : Int) + off = (t : Int)) (k : Go d mid t lo st h r) : Go d mid pc lo (.inl x :: st) h r := by
  refine go_step (pc' := t) hc rfl (fun _ => ?_) k
  show mm_tn ((pc : Int) + Op.lookupswitch.offset ps.toList df x.toInt) (fun t => mm_nx t lo st h) = _
  rw [ho, ht]
  rfl
theorem g_iret {d mid pc : Nat} {lo : MLo} {h : MH} {w b cw : Nat} {z : Int} {x : Int32} (hc : mm_code mid pc = some (.ireturn, w, 0, b, cw, z)) : Go d mid pc lo [.inl x] h (some (.inl x), h) := go_ret hc rfl
theorem g_zret {d mid pc : Nat} {lo : MLo} {h : MH} {w b cw : Nat} {z : Int} {x : Int32} (hc : mm_code mid pc = some (.ireturn, w, 1, b, cw, z)) (hx : x &&& 1 = x) : Go d mid pc lo [.inl x] h (some (.inl x), h) := go_ret hc (by show (bif decide (x &&& 1 = x) then _ else none) = _; rw [decide_eq_true hx]; rfl)
theorem g_lret {d mid pc : Nat} {lo : MLo} {h : MH} {w a b cw : Nat} {z : Int} {x : Int64} (hc : mm_code mid pc = some (.lreturn, w, a, b, cw, z)) : Go d mid pc lo [.inr (.inr x)] h (some (.inr (.inr x)), h) := go_ret hc rfl
theorem g_vret {d mid pc : Nat} {lo : MLo} {h : MH} {w a b cw : Nat} {z : Int} (hc : mm_code mid pc = some (.return_, w, a, b, cw, z)) : Go d mid pc lo [] h (none, h) := go_ret hc rfl
theorem g_cv0 {d mid pc q : Nat} {lo : MLo} {st : List MV} {h : MH} {r : MRs} {w a b cw : Nat} {z : Int} {tg d0 : Nat} {h1 : MH} {i : Instr} (hc : mm_code mid pc = some (i, w, a, b, cw, z)) (hr : mm_rtn i a (st) h = none) (hs : ∀ call, mm_ac call pc lo (st) h i w a b z = mm_iv call pc lo (st) h tg 0) (hm : Nat.ble (mm_sum st) 8 = true) (he : Ex d0 tg [] h (none, h1)) (hd : Nat.ble d0 d = true) (hq : pc + 3 = q) (k : Go d mid q lo (st) h1 r) : Go d mid pc lo (st) h r := by
  subst hq
  exact go_call (m := 0) hc hr hs (by simp) hm (ex_up (Nat.le_of_ble_eq_true hd) he) k
theorem g_ci0 {d mid pc q : Nat} {lo : MLo} {st : List MV} {h : MH} {r : MRs} {w a b cw : Nat} {z : Int} {x : Int32} {tg d0 : Nat} {h1 : MH} {i : Instr} (hc : mm_code mid pc = some (i, w, a, b, cw, z)) (hr : mm_rtn i a (st) h = none) (hs : ∀ call, mm_ac call pc lo (st) h i w a b z = mm_iv call pc lo (st) h tg 0) (hm : Nat.ble (mm_sum st) 8 = true) (he : Ex d0 tg [] h (some (.inl x), h1)) (hd : Nat.ble d0 d = true) (hq : pc + 3 = q) (k : Go d mid q lo (.inl x :: st) h1 r) : Go d mid pc lo (st) h r := by
  subst hq
  exact go_call (m := 0) hc hr hs (by simp) hm (ex_up (Nat.le_of_ble_eq_true hd) he) k
theorem g_cl0 {d mid pc q : Nat} {lo : MLo} {st : List MV} {h : MH} {r : MRs} {w a b cw : Nat} {z : Int} {x : Int64} {tg d0 : Nat} {h1 : MH} {i : Instr} (hc : mm_code mid pc = some (i, w, a, b, cw, z)) (hr : mm_rtn i a (st) h = none) (hs : ∀ call, mm_ac call pc lo (st) h i w a b z = mm_iv call pc lo (st) h tg 0) (hm : Nat.ble (mm_sum st) 8 = true) (he : Ex d0 tg [] h (some (.inr (.inr x)), h1)) (hd : Nat.ble d0 d = true) (hq : pc + 3 = q) (k : Go d mid q lo (.inr (.inr x) :: st) h1 r) : Go d mid pc lo (st) h r := by
  subst hq
  exact go_call (m := 0) hc hr hs (by simp) hm (ex_up (Nat.le_of_ble_eq_true hd) he) k
theorem g_cv1 {d mid pc q : Nat} {lo : MLo} {st : List MV} {h : MH} {r : MRs} {w a b cw : Nat} {z : Int} {v1 : MV} {tg d0 : Nat} {h1 : MH} {i : Instr} (hc : mm_code mid pc = some (i, w, a, b, cw, z)) (hr : mm_rtn i a (v1 :: st) h = none) (hs : ∀ call, mm_ac call pc lo (v1 :: st) h i w a b z = mm_iv call pc lo (v1 :: st) h tg 1) (hm : Nat.ble (mm_sum st) 8 = true) (he : Ex d0 tg [v1] h (none, h1)) (hd : Nat.ble d0 d = true) (hq : pc + 3 = q) (k : Go d mid q lo (st) h1 r) : Go d mid pc lo (v1 :: st) h r := by
  subst hq
  exact go_call (m := 1) hc hr hs (by simp) hm (ex_up (Nat.le_of_ble_eq_true hd) he) k
theorem g_ci1 {d mid pc q : Nat} {lo : MLo} {st : List MV} {h : MH} {r : MRs} {w a b cw : Nat} {z : Int} {v1 : MV} {x : Int32} {tg d0 : Nat} {h1 : MH} {i : Instr} (hc : mm_code mid pc = some (i, w, a, b, cw, z)) (hr : mm_rtn i a (v1 :: st) h = none) (hs : ∀ call, mm_ac call pc lo (v1 :: st) h i w a b z = mm_iv call pc lo (v1 :: st) h tg 1) (hm : Nat.ble (mm_sum st) 8 = true) (he : Ex d0 tg [v1] h (some (.inl x), h1)) (hd : Nat.ble d0 d = true) (hq : pc + 3 = q) (k : Go d mid q lo (.inl x :: st) h1 r) : Go d mid pc lo (v1 :: st) h r := by
  subst hq
  exact go_call (m := 1) hc hr hs (by simp) hm (ex_up (Nat.le_of_ble_eq_true hd) he) k
theorem g_cl1 {d mid pc q : Nat} {lo : MLo} {st : List MV} {h : MH} {r : MRs} {w a b cw : Nat} {z : Int} {v1 : MV} {x : Int64} {tg d0 : Nat} {h1 : MH} {i : Instr} (hc : mm_code mid pc = some (i, w, a, b, cw, z)) (hr : mm_rtn i a (v1 :: st) h = none) (hs : ∀ call, mm_ac call pc lo (v1 :: st) h i w a b z = mm_iv call pc lo (v1 :: st) h tg 1) (hm : Nat.ble (mm_sum st) 8 = true) (he : Ex d0 tg [v1] h (some (.inr (.inr x)), h1)) (hd : Nat.ble d0 d = true) (hq : pc + 3 = q) (k : Go d mid q lo (.inr (.inr x) :: st) h1 r) : Go d mid pc lo (v1 :: st) h r := by
  subst hq
  exact go_call (m := 1) hc hr hs (by simp) hm (ex_up (Nat.le_of_ble_eq_true hd) he) k
theorem g_cv2 {d mid pc q : Nat} {lo : MLo} {st : List MV} {h : MH} {r : MRs} {w a b cw : Nat} {z : Int} {v1 v2 : MV} {tg d0 : Nat} {h1 : MH} {i : Instr} (hc : mm_code mid pc = some (i, w, a, b, cw, z)) (hr : mm_rtn i a (v2 :: v1 :: st) h = none) (hs : ∀ call, mm_ac call pc lo (v2 :: v1 :: st) h i w a b z = mm_iv call pc lo (v2 :: v1 :: st) h tg 2) (hm : Nat.ble (mm_sum st) 8 = true) (he : Ex d0 tg [v1, v2] h (none, h1)) (hd : Nat.ble d0 d = true) (hq : pc + 3 = q) (k : Go d mid q lo (st) h1 r) : Go d mid pc lo (v2 :: v1 :: st) h r := by
  subst hq
  exact go_call (m := 2) hc hr hs (by simp) hm (ex_up (Nat.le_of_ble_eq_true hd) he) k
theorem g_ci2 {d mid pc q : Nat} {lo : MLo} {st : List MV} {h : MH} {r : MRs} {w a b cw : Nat} {z : Int} {v1 v2 : MV} {x : Int32} {tg d0 : Nat} {h1 : MH} {i : Instr} (hc : mm_code mid pc = some (i, w, a, b, cw, z)) (hr : mm_rtn i a (v2 :: v1 :: st) h = none) (hs : ∀ call, mm_ac call pc lo (v2 :: v1 :: st) h i w a b z = mm_iv call pc lo (v2 :: v1 :: st) h tg 2) (hm : Nat.ble (mm_sum st) 8 = true) (he : Ex d0 tg [v1, v2] h (some (.inl x), h1)) (hd : Nat.ble d0 d = true) (hq : pc + 3 = q) (k : Go d mid q lo (.inl x :: st) h1 r) : Go d mid pc lo (v2 :: v1 :: st) h r := by
  subst hq
  exact go_call (m := 2) hc hr hs (by simp) hm (ex_up (Nat.le_of_ble_eq_true hd) he) k
theorem g_cl2 {d mid pc q : Nat} {lo : MLo} {st : List MV} {h : MH} {r : MRs} {w a b cw : Nat} {z : Int} {v1 v2 : MV} {x : Int64} {tg d0 : Nat} {h1 : MH} {i : Instr} (hc : mm_code mid pc = some (i, w, a, b, cw, z)) (hr : mm_rtn i a (v2 :: v1 :: st) h = none) (hs : ∀ call, mm_ac call pc lo (v2 :: v1 :: st) h i w a b z = mm_iv call pc lo (v2 :: v1 :: st) h tg 2) (hm : Nat.ble (mm_sum st) 8 = true) (he : Ex d0 tg [v1, v2] h (some (.inr (.inr x)), h1)) (hd : Nat.ble d0 d = true) (hq : pc + 3 = q) (k : Go d mid q lo (.inr (.inr x) :: st) h1 r) : Go d mid pc lo (v2 :: v1 :: st) h r := by
  subst hq
  exact go_call (m := 2) hc hr hs (by simp) hm (ex_up (Nat.le_of_ble_eq_true hd) he) k
theorem g_cv3 {d mid pc q : Nat} {lo : MLo} {st : List MV} {h : MH} {r : MRs} {w a b cw : Nat} {z : Int} {v1 v2 v3 : MV} {tg d0 : Nat} {h1 : MH} {i : Instr} (hc : mm_code mid pc = some (i, w, a, b, cw, z)) (hr : mm_rtn i a (v3 :: v2 :: v1 :: st) h = none) (hs : ∀ call, mm_ac call pc lo (v3 :: v2 :: v1 :: st) h i w a b z = mm_iv call pc lo (v3 :: v2 :: v1 :: st) h tg 3) (hm : Nat.ble (mm_sum st) 8 = true) (he : Ex d0 tg [v1, v2, v3] h (none, h1)) (hd : Nat.ble d0 d = true) (hq : pc + 3 = q) (k : Go d mid q lo (st) h1 r) : Go d mid pc lo (v3 :: v2 :: v1 :: st) h r := by
  subst hq
  exact go_call (m := 3) hc hr hs (by simp) hm (ex_up (Nat.le_of_ble_eq_true hd) he) k
theorem g_ci3 {d mid pc q : Nat} {lo : MLo} {st : List MV} {h : MH} {r : MRs} {w a b cw : Nat} {z : Int} {v1 v2 v3 : MV} {x : Int32} {tg d0 : Nat} {h1 : MH} {i : Instr} (hc : mm_code mid pc = some (i, w, a, b, cw, z)) (hr : mm_rtn i a (v3 :: v2 :: v1 :: st) h = none) (hs : ∀ call, mm_ac call pc lo (v3 :: v2 :: v1 :: st) h i w a b z = mm_iv call pc lo (v3 :: v2 :: v1 :: st) h tg 3) (hm : Nat.ble (mm_sum st) 8 = true) (he : Ex d0 tg [v1, v2, v3] h (some (.inl x), h1)) (hd : Nat.ble d0 d = true) (hq : pc + 3 = q) (k : Go d mid q lo (.inl x :: st) h1 r) : Go d mid pc lo (v3 :: v2 :: v1 :: st) h r := by
  subst hq
  exact go_call (m := 3) hc hr hs (by simp) hm (ex_up (Nat.le_of_ble_eq_true hd) he) k
theorem g_cl3 {d mid pc q : Nat} {lo : MLo} {st : List MV} {h : MH} {r : MRs} {w a b cw : Nat} {z : Int} {v1 v2 v3 : MV} {x : Int64} {tg d0 : Nat} {h1 : MH} {i : Instr} (hc : mm_code mid pc = some (i, w, a, b, cw, z)) (hr : mm_rtn i a (v3 :: v2 :: v1 :: st) h = none) (hs : ∀ call, mm_ac call pc lo (v3 :: v2 :: v1 :: st) h i w a b z = mm_iv call pc lo (v3 :: v2 :: v1 :: st) h tg 3) (hm : Nat.ble (mm_sum st) 8 = true) (he : Ex d0 tg [v1, v2, v3] h (some (.inr (.inr x)), h1)) (hd : Nat.ble d0 d = true) (hq : pc + 3 = q) (k : Go d mid q lo (.inr (.inr x) :: st) h1 r) : Go d mid pc lo (v3 :: v2 :: v1 :: st) h r := by
  subst hq
  exact go_call (m := 3) hc hr hs (by simp) hm (ex_up (Nat.le_of_ble_eq_true hd) he) k
theorem g_cv4 {d mid pc q : Nat} {lo : MLo} {st : List MV} {h : MH} {r : MRs} {w a b cw : Nat} {z : Int} {v1 v2 v3 v4 : MV} {tg d0 : Nat} {h1 : MH} {i : Instr} (hc : mm_code mid pc = some (i, w, a, b, cw, z)) (hr : mm_rtn i a (v4 :: v3 :: v2 :: v1 :: st) h = none) (hs : ∀ call, mm_ac call pc lo (v4 :: v3 :: v2 :: v1 :: st) h i w a b z = mm_iv call pc lo (v4 :: v3 :: v2 :: v1 :: st) h tg 4) (hm : Nat.ble (mm_sum st) 8 = true) (he : Ex d0 tg [v1, v2, v3, v4] h (none, h1)) (hd : Nat.ble d0 d = true) (hq : pc + 3 = q) (k : Go d mid q lo (st) h1 r) : Go d mid pc lo (v4 :: v3 :: v2 :: v1 :: st) h r := by
  subst hq
  exact go_call (m := 4) hc hr hs (by simp) hm (ex_up (Nat.le_of_ble_eq_true hd) he) k
theorem g_ci4 {d mid pc q : Nat} {lo : MLo} {st : List MV} {h : MH} {r : MRs} {w a b cw : Nat} {z : Int} {v1 v2 v3 v4 : MV} {x : Int32} {tg d0 : Nat} {h1 : MH} {i : Instr} (hc : mm_code mid pc = some (i, w, a, b, cw, z)) (hr : mm_rtn i a (v4 :: v3 :: v2 :: v1 :: st) h = none) (hs : ∀ call, mm_ac call pc lo (v4 :: v3 :: v2 :: v1 :: st) h i w a b z = mm_iv call pc lo (v4 :: v3 :: v2 :: v1 :: st) h tg 4) (hm : Nat.ble (mm_sum st) 8 = true) (he : Ex d0 tg [v1, v2, v3, v4] h (some (.inl x), h1)) (hd : Nat.ble d0 d = true) (hq : pc + 3 = q) (k : Go d mid q lo (.inl x :: st) h1 r) : Go d mid pc lo (v4 :: v3 :: v2 :: v1 :: st) h r := by
  subst hq
  exact go_call (m := 4) hc hr hs (by simp) hm (ex_up (Nat.le_of_ble_eq_true hd) he) k
theorem g_cl4 {d mid pc q : Nat} {lo : MLo} {st : List MV} {h : MH} {r : MRs} {w a b cw : Nat} {z : Int} {v1 v2 v3 v4 : MV} {x : Int64} {tg d0 : Nat} {h1 : MH} {i : Instr} (hc : mm_code mid pc = some (i, w, a, b, cw, z)) (hr : mm_rtn i a (v4 :: v3 :: v2 :: v1 :: st) h = none) (hs : ∀ call, mm_ac call pc lo (v4 :: v3 :: v2 :: v1 :: st) h i w a b z = mm_iv call pc lo (v4 :: v3 :: v2 :: v1 :: st) h tg 4) (hm : Nat.ble (mm_sum st) 8 = true) (he : Ex d0 tg [v1, v2, v3, v4] h (some (.inr (.inr x)), h1)) (hd : Nat.ble d0 d = true) (hq : pc + 3 = q) (k : Go d mid q lo (.inr (.inr x) :: st) h1 r) : Go d mid pc lo (v4 :: v3 :: v2 :: v1 :: st) h r := by
  subst hq
  exact go_call (m := 4) hc hr hs (by simp) hm (ex_up (Nat.le_of_ble_eq_true hd) he) k
theorem g_cv5 {d mid pc q : Nat} {lo : MLo} {st : List MV} {h : MH} {r : MRs} {w a b cw : Nat} {z : Int} {v1 v2 v3 v4 v5 : MV} {tg d0 : Nat} {h1 : MH} {i : Instr} (hc : mm_code mid pc = some (i, w, a, b, cw, z)) (hr : mm_rtn i a (v5 :: v4 :: v3 :: v2 :: v1 :: st) h = none) (hs : ∀ call, mm_ac call pc lo (v5 :: v4 :: v3 :: v2 :: v1 :: st) h i w a b z = mm_iv call pc lo (v5 :: v4 :: v3 :: v2 :: v1 :: st) h tg 5) (hm : Nat.ble (mm_sum st) 8 = true) (he : Ex d0 tg [v1, v2, v3, v4, v5] h (none, h1)) (hd : Nat.ble d0 d = true) (hq : pc + 3 = q) (k : Go d mid q lo (st) h1 r) : Go d mid pc lo (v5 :: v4 :: v3 :: v2 :: v1 :: st) h r := by
  subst hq
  exact go_call (m := 5) hc hr hs (by simp) hm (ex_up (Nat.le_of_ble_eq_true hd) he) k
theorem g_ci5 {d mid pc q : Nat} {lo : MLo} {st : List MV} {h : MH} {r : MRs} {w a b cw : Nat} {z : Int} {v1 v2 v3 v4 v5 : MV} {x : Int32} {tg d0 : Nat} {h1 : MH} {i : Instr} (hc : mm_code mid pc = some (i, w, a, b, cw, z)) (hr : mm_rtn i a (v5 :: v4 :: v3 :: v2 :: v1 :: st) h = none) (hs : ∀ call, mm_ac call pc lo (v5 :: v4 :: v3 :: v2 :: v1 :: st) h i w a b z = mm_iv call pc lo (v5 :: v4 :: v3 :: v2 :: v1 :: st) h tg 5) (hm : Nat.ble (mm_sum st) 8 = true) (he : Ex d0 tg [v1, v2, v3, v4, v5] h (some (.inl x), h1)) (hd : Nat.ble d0 d = true) (hq : pc + 3 = q) (k : Go d mid q lo (.inl x :: st) h1 r) : Go d mid pc lo (v5 :: v4 :: v3 :: v2 :: v1 :: st) h r := by
  subst hq
  exact go_call (m := 5) hc hr hs (by simp) hm (ex_up (Nat.le_of_ble_eq_true hd) he) k
theorem g_cl5 {d mid pc q : Nat} {lo : MLo} {st : List MV} {h : MH} {r : MRs} {w a b cw : Nat} {z : Int} {v1 v2 v3 v4 v5 : MV} {x : Int64} {tg d0 : Nat} {h1 : MH} {i : Instr} (hc : mm_code mid pc = some (i, w, a, b, cw, z)) (hr : mm_rtn i a (v5 :: v4 :: v3 :: v2 :: v1 :: st) h = none) (hs : ∀ call, mm_ac call pc lo (v5 :: v4 :: v3 :: v2 :: v1 :: st) h i w a b z = mm_iv call pc lo (v5 :: v4 :: v3 :: v2 :: v1 :: st) h tg 5) (hm : Nat.ble (mm_sum st) 8 = true) (he : Ex d0 tg [v1, v2, v3, v4, v5] h (some (.inr (.inr x)), h1)) (hd : Nat.ble d0 d = true) (hq : pc + 3 = q) (k : Go d mid q lo (.inr (.inr x) :: st) h1 r) : Go d mid pc lo (v5 :: v4 :: v3 :: v2 :: v1 :: st) h r := by
  subst hq
  exact go_call (m := 5) hc hr hs (by simp) hm (ex_up (Nat.le_of_ble_eq_true hd) he) k
theorem g_cv6 {d mid pc q : Nat} {lo : MLo} {st : List MV} {h : MH} {r : MRs} {w a b cw : Nat} {z : Int} {v1 v2 v3 v4 v5 v6 : MV} {tg d0 : Nat} {h1 : MH} {i : Instr} (hc : mm_code mid pc = some (i, w, a, b, cw, z)) (hr : mm_rtn i a (v6 :: v5 :: v4 :: v3 :: v2 :: v1 :: st) h = none) (hs : ∀ call, mm_ac call pc lo (v6 :: v5 :: v4 :: v3 :: v2 :: v1 :: st) h i w a b z = mm_iv call pc lo (v6 :: v5 :: v4 :: v3 :: v2 :: v1 :: st) h tg 6) (hm : Nat.ble (mm_sum st) 8 = true) (he : Ex d0 tg [v1, v2, v3, v4, v5, v6] h (none, h1)) (hd : Nat.ble d0 d = true) (hq : pc + 3 = q) (k : Go d mid q lo (st) h1 r) : Go d mid pc lo (v6 :: v5 :: v4 :: v3 :: v2 :: v1 :: st) h r := by
  subst hq
  exact go_call (m := 6) hc hr hs (by simp) hm (ex_up (Nat.le_of_ble_eq_true hd) he) k
theorem g_ci6 {d mid pc q : Nat} {lo : MLo} {st : List MV} {h : MH} {r : MRs} {w a b cw : Nat} {z : Int} {v1 v2 v3 v4 v5 v6 : MV} {x : Int32} {tg d0 : Nat} {h1 : MH} {i : Instr} (hc : mm_code mid pc = some (i, w, a, b, cw, z)) (hr : mm_rtn i a (v6 :: v5 :: v4 :: v3 :: v2 :: v1 :: st) h = none) (hs : ∀ call, mm_ac call pc lo (v6 :: v5 :: v4 :: v3 :: v2 :: v1 :: st) h i w a b z = mm_iv call pc lo (v6 :: v5 :: v4 :: v3 :: v2 :: v1 :: st) h tg 6) (hm : Nat.ble (mm_sum st) 8 = true) (he : Ex d0 tg [v1, v2, v3, v4, v5, v6] h (some (.inl x), h1)) (hd : Nat.ble d0 d = true) (hq : pc + 3 = q) (k : Go d mid q lo (.inl x :: st) h1 r) : Go d mid pc lo (v6 :: v5 :: v4 :: v3 :: v2 :: v1 :: st) h r := by
  subst hq
  exact go_call (m := 6) hc hr hs (by simp) hm (ex_up (Nat.le_of_ble_eq_true hd) he) k
theorem g_cl6 {d mid pc q : Nat} {lo : MLo} {st : List MV} {h : MH} {r : MRs} {w a b cw : Nat} {z : Int} {v1 v2 v3 v4 v5 v6 : MV} {x : Int64} {tg d0 : Nat} {h1 : MH} {i : Instr} (hc : mm_code mid pc = some (i, w, a, b, cw, z)) (hr : mm_rtn i a (v6 :: v5 :: v4 :: v3 :: v2 :: v1 :: st) h = none) (hs : ∀ call, mm_ac call pc lo (v6 :: v5 :: v4 :: v3 :: v2 :: v1 :: st) h i w a b z = mm_iv call pc lo (v6 :: v5 :: v4 :: v3 :: v2 :: v1 :: st) h tg 6) (hm : Nat.ble (mm_sum st) 8 = true) (he : Ex d0 tg [v1, v2, v3, v4, v5, v6] h (some (.inr (.inr x)), h1)) (hd : Nat.ble d0 d = true) (hq : pc + 3 = q) (k : Go d mid q lo (.inr (.inr x) :: st) h1 r) : Go d mid pc lo (v6 :: v5 :: v4 :: v3 :: v2 :: v1 :: st) h r := by
  subst hq
  exact go_call (m := 6) hc hr hs (by simp) hm (ex_up (Nat.le_of_ble_eq_true hd) he) k
theorem g_cv7 {d mid pc q : Nat} {lo : MLo} {st : List MV} {h : MH} {r : MRs} {w a b cw : Nat} {z : Int} {v1 v2 v3 v4 v5 v6 v7 : MV} {tg d0 : Nat} {h1 : MH} {i : Instr} (hc : mm_code mid pc = some (i, w, a, b, cw, z)) (hr : mm_rtn i a (v7 :: v6 :: v5 :: v4 :: v3 :: v2 :: v1 :: st) h = none) (hs : ∀ call, mm_ac call pc lo (v7 :: v6 :: v5 :: v4 :: v3 :: v2 :: v1 :: st) h i w a b z = mm_iv call pc lo (v7 :: v6 :: v5 :: v4 :: v3 :: v2 :: v1 :: st) h tg 7) (hm : Nat.ble (mm_sum st) 8 = true) (he : Ex d0 tg [v1, v2, v3, v4, v5, v6, v7] h (none, h1)) (hd : Nat.ble d0 d = true) (hq : pc + 3 = q) (k : Go d mid q lo (st) h1 r) : Go d mid pc lo (v7 :: v6 :: v5 :: v4 :: v3 :: v2 :: v1 :: st) h r := by
  subst hq
  exact go_call (m := 7) hc hr hs (by simp) hm (ex_up (Nat.le_of_ble_eq_true hd) he) k
theorem g_ci7 {d mid pc q : Nat} {lo : MLo} {st : List MV} {h : MH} {r : MRs} {w a b cw : Nat} {z : Int} {v1 v2 v3 v4 v5 v6 v7 : MV} {x : Int32} {tg d0 : Nat} {h1 : MH} {i : Instr} (hc : mm_code mid pc = some (i, w, a, b, cw, z)) (hr : mm_rtn i a (v7 :: v6 :: v5 :: v4 :: v3 :: v2 :: v1 :: st) h = none) (hs : ∀ call, mm_ac call pc lo (v7 :: v6 :: v5 :: v4 :: v3 :: v2 :: v1 :: st) h i w a b z = mm_iv call pc lo (v7 :: v6 :: v5 :: v4 :: v3 :: v2 :: v1 :: st) h tg 7) (hm : Nat.ble (mm_sum st) 8 = true) (he : Ex d0 tg [v1, v2, v3, v4, v5, v6, v7] h (some (.inl x), h1)) (hd : Nat.ble d0 d = true) (hq : pc + 3 = q) (k : Go d mid q lo (.inl x :: st) h1 r) : Go d mid pc lo (v7 :: v6 :: v5 :: v4 :: v3 :: v2 :: v1 :: st) h r := by
  subst hq
  exact go_call (m := 7) hc hr hs (by simp) hm (ex_up (Nat.le_of_ble_eq_true hd) he) k
theorem g_cl7 {d mid pc q : Nat} {lo : MLo} {st : List MV} {h : MH} {r : MRs} {w a b cw : Nat} {z : Int} {v1 v2 v3 v4 v5 v6 v7 : MV} {x : Int64} {tg d0 : Nat} {h1 : MH} {i : Instr} (hc : mm_code mid pc = some (i, w, a, b, cw, z)) (hr : mm_rtn i a (v7 :: v6 :: v5 :: v4 :: v3 :: v2 :: v1 :: st) h = none) (hs : ∀ call, mm_ac call pc lo (v7 :: v6 :: v5 :: v4 :: v3 :: v2 :: v1 :: st) h i w a b z = mm_iv call pc lo (v7 :: v6 :: v5 :: v4 :: v3 :: v2 :: v1 :: st) h tg 7) (hm : Nat.ble (mm_sum st) 8 = true) (he : Ex d0 tg [v1, v2, v3, v4, v5, v6, v7] h (some (.inr (.inr x)), h1)) (hd : Nat.ble d0 d = true) (hq : pc + 3 = q) (k : Go d mid q lo (.inr (.inr x) :: st) h1 r) : Go d mid pc lo (v7 :: v6 :: v5 :: v4 :: v3 :: v2 :: v1 :: st) h r := by
  subst hq
  exact go_call (m := 7) hc hr hs (by simp) hm (ex_up (Nat.le_of_ble_eq_true hd) he) k
