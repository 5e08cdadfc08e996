/-! EVALUATION OF A LAW: a code of (sort, value) as the reference has it, a stack as a list (its head is the top) -/
/-- by the reference's signs -/
def opm (s : Int32) (x y : Int64) : Option Int64 :=
  if s = 43 then lim (x + y) else if s = 45 then lim (x - y) else if s = 42 then (if ¬ x = 0 ∧ (1000000000000 : Int64) / jabs x < jabs y then none else lim (x * y)) else if s = 47 then (if y = 0 then none else lim (x / y)) else
  if s = 60 then some (jb (x < y)) else if s = 256 then some (jb (x ≤ y)) else if s = 61 then some (jb (x = y)) else if s = 257 then some (jb (¬ x = y)) else if s = 258 then some (jb (y ≤ x)) else if s = 62 then some (jb (y < x)) else
  if s = 261 then some (jb (¬ x = 0 ∧ ¬ y = 0)) else some (jb (¬ x = 0 ∨ ¬ y = 0))
/-- the class's kind as the reference's sign -/
def sgk (k : Int32) : Int32 := if k = 27 then 43 else if k = 28 then 45 else if k = 29 then 42 else if k = 30 then 47 else if k = 21 then 60 else if k = 22 then 256 else if k = 23 then 61 else if k = 24 then 257 else if k = 25 then 258 else if k = 26 then 62 else if k = 12 then 261 else if k = 13 then 260 else 262
/-- one knot: sort 0 a number, 1 a name, 2 a sign -/
def evs (nm : Nat → Int64) (c : Int32 × Int32) (st : List Int64) : Option (List Int64) :=
  if c.1 = 0 then some (c.2.toInt64 :: st) else if c.1 = 1 then some (nm c.2.toNatClampNeg :: st) else
  if c.2 = 260 then (match st with | y :: r => some (jb (y = 0) :: r) | [] => none) else
  match st with | y :: x :: r => (match opm c.2 x y with | some v => some (v :: r) | none => none) | _ => none
/-- n knots from place i on -/
def evn (nm : Nat → Int64) (c : Nat → Int32 × Int32) : Nat → Nat → List Int64 → Option (List Int64)
  | 0, _, st => some st
  | n + 1, i, st => match evs nm (c i) st with | some st' => evn nm c n (i + 1) st' | none => none
/-- how many stand on the stack behind a knot, if it can be worked out -/
def dps (c : Int32 × Int32) (k : Nat) : Option Nat :=
  if c.1 = 0 then some (k + 1) else if c.1 = 1 then (if c.2.toNatClampNeg < 7 ∧ c.2 = nI c.2.toNatClampNeg then some (k + 1) else none) else if c.1 = 2 then (if c.2 = 260 then (if 0 < k then some k else none) else (if 1 < k then some (k - 1) else none)) else none
def dpn (c : Nat → Int32 × Int32) : Nat → Nat → Nat → Option Nat
  | 0, _, k => some k
  | n + 1, i, k => match dps (c i) k with | some k' => dpn c n (i + 1) k' | none => none
/-- the array holds the stack -/
def stA (f : Nat → Int64) (st : List Int64) : Prop := ∀ j, j < st.length → f j = st.getD (st.length - 1 - j) 0
theorem stA_push {f : Nat → Int64} {st : List Int64} (h : stA f st) (x : Int64) : stA (fun j => if j = st.length then x else f j) (x :: st) := by
  intro j hj
  simp only [List.length_cons] at hj ⊢
  by_cases e : j = st.length
  · subst e
    simp
  · have h1 : j < st.length := by omega
    have e2 : st.length + 1 - 1 - j = (st.length - 1 - j) + 1 := by omega
    rw [if_neg e, h j h1, e2, List.getD_cons_succ]
theorem stA_top {f : Nat → Int64} {st : List Int64} {y : Int64} (h : stA f (y :: st)) : f st.length = y := by
  have h1 := h st.length (by simp)
  simpa using h1
theorem stA_pop {f : Nat → Int64} {st : List Int64} {y : Int64} (h : stA f (y :: st)) : stA f st := by
  intro j hj
  have h1 := h j (by simp; omega)
  simp only [List.length_cons] at h1
  have e2 : st.length + 1 - 1 - j = (st.length - 1 - j) + 1 := by omega
  rw [e2, List.getD_cons_succ] at h1
  exact h1
/-- a value within the limit -/
def inL (v : Int64) : Prop := ¬ (1000000000000 : Int64) < v ∧ ¬ v < (-1000000000000 : Int64)
theorem inL_iff {v : Int64} : inL v ↔ -1000000000000 ≤ v.toInt ∧ v.toInt ≤ 1000000000000 := by
  unfold inL
  rw [Int64.lt_iff_toInt_lt, Int64.lt_iff_toInt_lt]
  have e1 : (1000000000000 : Int64).toInt = 1000000000000 := by decide
  have e2 : (-1000000000000 : Int64).toInt = -1000000000000 := by decide
  rw [e1, e2]
  omega
theorem inL_jb (c : Prop) [Decidable c] : inL (jb c) := by
  unfold jb
  split <;> exact ⟨by decide, by decide⟩
theorem inL_i (x : Int32) : inL x.toInt64 := by
  rw [inL_iff, Int32.toInt_toInt64]
  have := Int32.toInt_lt x
  have := Int32.le_toInt x
  omega
theorem lim_some {v z : Int64} (h : lim v = some z) : v = z ∧ inL z := by
  unfold lim at h
  split at h
  · cases h
  · split at h
    · cases h
    · cases h
      exact ⟨rfl, by assumption, by assumption⟩
