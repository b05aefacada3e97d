-- the state that both sides stand for: house now, image, letters, row, snapshots (oldest first), refusals
abbrev SS : Type := HS × Option HS × List Int × List Int × List HS × (Nat → Int32)
abbrev sN (S : SS) : HS := S.1
abbrev sI (S : SS) : Option HS := S.2.1
abbrev sLt (S : SS) : List Int := S.2.2.1
abbrev sRw (S : SS) : List Int := S.2.2.2.1
abbrev sU (S : SS) : List HS := S.2.2.2.2.1
abbrev sR (S : SS) : Nat → Int32 := S.2.2.2.2.2
/-- one step back: what (0 skill, 1 cover, 2 lie), whose, before -/
def unDo (a : HS) (what whose : Nat) (before : Int) : HS :=
  if what = 0 then (fun q i => if q = 5 ∧ i = whose then before else a.1 q i, a.2)
  else if what = 1 then (fun q i => if q = 2 ∧ i = whose then before / 100 else if q = 3 ∧ i = whose then before % 100 else a.1 q i, a.2)
  else (a.1, nB a, nP a, nW a, before.toNat)
/-- a snapshot's 52 numbers in the model's order of carrying -/
def RepV (a : HS) (g : Nat → Int32) : Prop :=
  g 0 = I (nB a) ∧ g 1 = I (nP a) ∧ g 2 = I (nW a) ∧ g 3 = I ((hLie a / 256 : Nat) : Int) ∧
  (∀ b, b < nB a → g (4 + 4 * b) = I (hL a b) ∧ g (4 + (4 * b + 1)) = I (hB a b) ∧ g (4 + (4 * b + 2)) = I (hC a b) ∧ g (4 + (4 * b + 3)) = I (hD a b)) ∧
  (∀ p, p < nP a → g (28 + 3 * p) = I (hA a p)) ∧ (∀ p, p < nP a → g (28 + 3 * p + 1) = I (hS a p)) ∧ (∀ c, c < 4 → g (28 + 3 * c + 2) = I ((hLie a / 4 ^ c % 4 : Nat) : Int)) ∧
  (∀ w, w < nW a → g (40 + 2 * w) = I (hK a w)) ∧ (∀ w, w < nW a → g (40 + 2 * w + 1) = I (hF a w))
def RImg (o : Option HS) (h : MH) : Prop := match o with
  | none => h.1 0 10 = I 0
  | some a => h.1 0 10 = I 1 ∧ RepH 15 a h.1
def RImgM (o : Option HS) (h : MH) : Prop := match o with
  | none => h.1 55 24 = I 0
  | some a => h.1 55 24 = I 1 ∧ RepV a (h.1 69)
def RUn (S : SS) (h : MH) : Prop :=
  h.1 31 3 = I (sU S).length ∧ ∀ i, i < (sU S).length → ∃ (x y : Nat) (z : Int), x < 3 ∧ y < 6 ∧ h.1 32 i = I x ∧ h.1 33 i = I y ∧ h.1 34 i = I z ∧
    (x = 0 → y < nP (sN S)) ∧ (x = 1 → y < nB (sN S)) ∧ 0 ≤ z ∧ z < 2147483648 ∧
    (sU S).getD i (sN S) = unDo ((sU S).getD (i + 1) (sN S)) x y z
def RUnM (S : SS) (h : MH) : Prop :=
  h.1 55 30 = I (sU S).length ∧ ∀ i, i < (sU S).length → RepV ((sU S).getD i (sN S)) (fun j => h.1 70 (52 * i + j))
def RC (S : SS) (h : MH) : Prop :=
  RepH 8 (sN S) h.1 ∧ RImg (sI S) h ∧ (h.1 29 1 = I (sLt S).length ∧ ∀ i, i < (sLt S).length → h.1 30 i = I ((sLt S).getD i 0)) ∧
  (h.1 0 9 = I (sRw S).length ∧ ∀ i, i < (sRw S).length → h.1 53 i = I ((sRw S).getD i 0)) ∧ RUn S h ∧ ∀ i, i < 7 → h.1 54 i = sR S i
def RM (S : SS) (h : MH) : Prop :=
  RepM (sN S) h.1 ∧ RImgM (sI S) h ∧ (h.1 55 15 = I (sLt S).length ∧ ∀ i, i < (sLt S).length → h.1 64 i = I ((sLt S).getD i 0)) ∧
  (h.1 55 34 = I (sRw S).length ∧ ∀ i, i < (sRw S).length → h.1 74 i = I ((sRw S).getD i 0)) ∧ RUnM S h ∧ ∀ i, i < 7 → h.1 62 i = sR S i
/-- the corner at a place; a lie is one of the 16 that turns lead to -/
def dig (l c : Nat) : Nat := l / 4 ^ c % 4
def okLie (l : Nat) : Bool := decide (l < 512) && ((List.range 4).all (fun c => (List.range 4).any (fun p => dig l p == c)) && (dig l 0 + dig l 3 == 3))
/-- what always holds of the state -/
def InvS (S : SS) : Prop :=
  InvH (sN S) ∧ (∀ a, sI S = some a → InvH a ∧ okLie (hLie a) = true) ∧ (sLt S).length ≤ 96 ∧ (∀ x, x ∈ sLt S → 0 ≤ x ∧ x ≤ 255) ∧ (sRw S).length ≤ 12 ∧ (∀ x, x ∈ sRw S → 0 ≤ x ∧ x ≤ 99) ∧
  (sU S).length ≤ 8 ∧ (∀ a, a ∈ sU S → InvH a ∧ okLie (hLie a) = true) ∧ okLie (hLie (sN S)) = true
theorem is_h {S : SS} (J : InvS S) : InvH (sN S) := J.1
theorem rc_h {S : SS} {h : MH} (R : RC S h) : RepH 8 (sN S) h.1 := R.1
theorem rm_h {S : SS} {h : MH} (R : RM S h) : RepM (sN S) h.1 := R.1
-- outcomes
def scC (k : Nat) : Bool := (22 ≤ k && k ≤ 28) || (35 ≤ k && k ≤ 52)
def scM (k i : Nat) : Bool := (k == 55 && (i == 10 || i == 13 || i == 16 || i == 17 || i == 18 || i == 25 || i == 26 || i == 27 || i == 37)) || k == 63 || k == 65 || k == 66 || k == 67 || k == 68 || k == 71 || k == 72 || k == 73 || k == 75 || k == 76
def ScC (h h' : MH) : Prop := h'.2 = h.2 ∧ ∀ k i, scC k = false → h'.1 k i = h.1 k i
def ScM (h h' : MH) : Prop := ∀ k i, scM k i = false → h'.1 k i = h.1 k i
theorem ScC_rfl (h : MH) : ScC h h := ⟨rfl, fun _ _ _ => rfl⟩
theorem ScM_rfl (h : MH) : ScM h h := fun _ _ _ => rfl
theorem ScC_tr {a b c : MH} (p : ScC a b) (q : ScC b c) : ScC a c := ⟨q.1.trans p.1, fun k i e => (q.2 k i e).trans (p.2 k i e)⟩
theorem ScM_tr {a b c : MH} (p : ScM a b) (q : ScM b c) : ScM a c := fun k i e => (q k i e).trans (p k i e)
def setT (h : MH) : MH := (mm_hset h.1 55 10 (I 0), h.2)
def refC (r : Nat) (h : MH) : MH := if r = 0 then h else (mm_hset h.1 54 r (h.1 54 r + I 1), h.2)
def refM (r : Nat) (h : MH) : MH := if r = 0 then h else (mm_hset h.1 62 r (h.1 62 r + I 1), h.2)
def refS (r : Nat) (S : SS) : SS := if r = 0 then S else (sN S, sI S, sLt S, sRw S, sU S, fun i => if i = r then sR S r + I 1 else sR S i)
def OC {α : Type} (o : α × Nat) (h : MH) (x : Option (α × MH)) : Prop := ∃ h', x = some (o.1, h') ∧ ScC (refC o.2 h) h'
def OM {α : Type} (o : α × Nat) (h : MH) (x : Option (α × MH)) : Prop := ∃ h', x = some (o.1, h') ∧ ScM (refM o.2 (setT h)) h'
/-- a question: both sides answer the same, and refuse the same -/
def Q2 {α : Type} (S : SS) (F G : MH → Option (α × MH)) : Prop := ∃ o : α × Nat, o.2 < 7 ∧ (∀ h, RC S h → OC o h (F h)) ∧ ∀ h, RM S h → OM o h (G h)
theorem ScM_setT (h : MH) : ScM h (setT h) := by
  intro k i e
  refine hs_ne (fun q => ?_)
  obtain ⟨rfl, rfl⟩ := q
  exact absurd e (by decide)
theorem scM_ne {k i : Nat} (e : scM k i = false) : ¬ (k = 55 ∧ i = 10) := by
  rintro ⟨rfl, rfl⟩
  exact absurd e (by decide)
theorem RepM_Sc {a : HS} {h h' : MH} (R : RepM a h.1) (q : ScM h h') : RepM a h'.1 := by
  obtain ⟨r1, r2, r3, r4, r5, r6, r7, r8, r9, r10⟩ := R
  refine ⟨(q 55 0 rfl).trans r1, (q 55 2 rfl).trans r2, (q 55 5 rfl).trans r3, (q 55 9 rfl).trans r4, fun b hb => ?_, fun p hp => (q 57 p rfl).trans (r6 p hp), fun p hp => (q 58 p rfl).trans (r7 p hp), fun w hw => (q 59 w rfl).trans (r8 w hw), fun w hw => (q 60 w rfl).trans (r9 w hw), fun c hc => (q 61 c rfl).trans (r10 c hc)⟩
  exact ⟨(q 56 _ rfl).trans (r5 b hb).1, (q 56 _ rfl).trans (r5 b hb).2.1, (q 56 _ rfl).trans (r5 b hb).2.2.1, (q 56 _ rfl).trans (r5 b hb).2.2.2⟩
theorem RM_Sc {S : SS} {h h' : MH} (R : RM S h) (q : ScM h h') : RM S h' := by
  obtain ⟨r1, r2, ⟨r3, r3'⟩, ⟨r4, r4'⟩, ⟨r5, r5'⟩, r6⟩ := R
  have e69 : h'.1 69 = h.1 69 := funext fun i => q 69 i rfl
  have e70 : h'.1 70 = h.1 70 := funext fun i => q 70 i rfl
  refine ⟨RepM_Sc r1 q, ?_, ⟨(q 55 15 rfl).trans r3, fun i hi => (q 64 i rfl).trans (r3' i hi)⟩, ⟨(q 55 34 rfl).trans r4, fun i hi => (q 74 i rfl).trans (r4' i hi)⟩, ⟨(q 55 30 rfl).trans r5, ?_⟩, fun i hi => (q 62 i rfl).trans (r6 i hi)⟩
  · unfold RImgM at r2 ⊢
    split
    · rename_i e
      rw [e] at r2
      exact (q 55 24 rfl).trans r2
    · rename_i e
      rw [e] at r2
      rw [e69]
      exact ⟨(q 55 24 rfl).trans r2.1, r2.2⟩
  · rw [e70]
    exact r5'
theorem RC_Sc {S : SS} {h h' : MH} (R : RC S h) (q : ScC h h') : RC S h' := by
  have e : ∀ k, scC k = false → h'.1 k = h.1 k := fun k hk => funext fun i => q.2 k i hk
  have e15 : ∀ a, RepH 15 a h.1 → RepH 15 a h'.1 := by
    intro a r
    unfold RepH at r ⊢
    rw [e 15 rfl, e (15 + 1) rfl, e (15 + 2) rfl, e (15 + 3) rfl, e (15 + 4) rfl, e (15 + 5) rfl, e (15 + 6) rfl]
    exact r
  obtain ⟨r1, r2, r3, r4, r5, r6⟩ := R
  refine ⟨?_, ?_, ?_, ?_, ?_, ?_⟩
  · unfold RepH at r1 ⊢
    rw [e 8 rfl, e (8 + 1) rfl, e (8 + 2) rfl, e (8 + 3) rfl, e (8 + 4) rfl, e (8 + 5) rfl, e (8 + 6) rfl]
    exact r1
  · unfold RImg at r2 ⊢
    split
    · rename_i x
      rw [x] at r2
      rw [e 0 rfl]
      exact r2
    · rename_i x
      rw [x] at r2
      rw [e 0 rfl]
      exact ⟨r2.1, e15 _ r2.2⟩
  · rw [e 29 rfl, e 30 rfl]
    exact r3
  · rw [e 0 rfl, e 53 rfl]
    exact r4
  · unfold RUn at r5 ⊢
    rw [e 31 rfl, e 32 rfl, e 33 rfl, e 34 rfl]
    exact r5
  · rw [e 54 rfl]
    exact r6
/-- frames: the class leaves the model's places, the model leaves the class's -/
def FrC (h h' : MH) : Prop := ∀ k i, 55 ≤ k → h'.1 k i = h.1 k i
def FrM (h h' : MH) : Prop := ∀ k i, k < 55 → h'.1 k i = h.1 k i
theorem RM_Fr {S : SS} {h h' : MH} (R : RM S h) (q : FrC h h') : RM S h' := by
  have e : ∀ k, 55 ≤ k → h'.1 k = h.1 k := fun k hk => funext fun i => q k i hk
  unfold RM RUnM RImgM RepM at R ⊢
  simp only [e 55 (by omega), e 56 (by omega), e 57 (by omega), e 58 (by omega), e 59 (by omega), e 60 (by omega), e 61 (by omega), e 62 (by omega), e 64 (by omega), e 69 (by omega), e 70 (by omega), e 74 (by omega)]
  exact R
theorem RC_Fr {S : SS} {h h' : MH} (R : RC S h) (q : FrM h h') : RC S h' := by
  have e : ∀ k, k < 55 → h'.1 k = h.1 k := fun k hk => funext fun i => q k i hk
  unfold RC RUn RImg RepH at R ⊢
  simp only [e 0 (by omega), e 8 (by omega), e (8 + 1) (by omega), e (8 + 2) (by omega), e (8 + 3) (by omega), e (8 + 4) (by omega), e (8 + 5) (by omega), e (8 + 6) (by omega), e 15 (by omega), e (15 + 1) (by omega), e (15 + 2) (by omega), e (15 + 3) (by omega), e (15 + 4) (by omega), e (15 + 5) (by omega), e (15 + 6) (by omega), e 29 (by omega), e 30 (by omega), e 31 (by omega), e 32 (by omega), e 33 (by omega), e 34 (by omega), e 53 (by omega), e 54 (by omega)]
  exact R
