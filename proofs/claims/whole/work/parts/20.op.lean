/-! WHAT A SIGN DOES: the class's two methods, the reference's one, and that they agree within the limit -/
def jb (c : Prop) [Decidable c] : Int64 := if c then 1 else 0
def lim (v : Int64) : Option Int64 := if (1000000000000 : Int64) < v then none else if v < (-1000000000000 : Int64) then none else some v
def mulm (x : Int64) : Int64 := if x = 0 then 1000000000000 else (1000000000000 : Int64) / (if 0 ≤ x then x else -x)
/-- by the class's kinds -/
def opk (k : Int32) (x y : Int64) : Option Int64 :=
  if k = 27 then lim (x + y) else if k = 28 then lim (x - y) else if k = 29 then (if mulm x < y then none else if y < -mulm x then none else some (x * y)) else if k = 30 then (if y = 0 then none else some (x / y)) else
  if k = 21 then some (jb (x < y)) else if k = 22 then some (jb (x ≤ y)) else if k = 23 then some (jb (x = y)) else if k = 24 then some (jb (¬ x = y)) else if k = 25 then some (jb (y ≤ x)) else if k = 26 then some (jb (y < x)) else
  if k = 12 then some (jb (¬ x = 0 ∧ ¬ y = 0)) else some (jb (¬ x = 0 ∨ ¬ y = 0))
section OPC
variable {l : Launch} {D : gD} {d : Nat} {μ : gMem}
theorem c_X2_isWorkable {x0 : Int32} {l1 l3 : Int64} : Ctr l D d yX2_isWorkable cX2_isWorkable 7 (some .boolean) [.int x0, .long l1, .long l3] μ (pI (fun v μ' => v = bI ((opk x0 l1 l3).isSome = true) ∧ μ' = μ)) := by
  refine en_X2_isWorkable (fun Γ => bl_X2_isWorkable_0 ?_)
  simp only [lg_cmp_gt, lg_cmp_lt, lg_cmp_ge, lg_cmp_eq]
  have hm : ∀ (e : x0 = 29), pt_X2_isWorkable_2 l D d (fun v μ' => v = bI ((opk x0 l1 l3).isSome = true) ∧ μ' = μ) Γ l3 (mulm l1) μ := by
    intro e
    refine bl_X2_isWorkable_2 ?_
    rintro _ rfl
    simp only [lg_cmp_gt, lg_cmp_lt]
    subst e
    refine ⟨fun h => ⟨by simp [opk, bI, h], by trivial⟩, fun h => ⟨fun h2 => ⟨by simp [opk, bI, h, h2], by trivial⟩, fun h2 => ⟨by simp [opk, bI, h, h2], by trivial⟩⟩⟩
  refine ⟨fun e => ?_, fun e => ?_, fun e => ?_, fun e => ?_, fun e => ?_⟩
  · subst e
    exact ⟨fun h => ⟨by simp [opk, lim, bI, h], by trivial⟩, fun h => ⟨fun h2 => ⟨by simp [opk, lim, bI, h, h2], by trivial⟩, fun h2 => ⟨by simp [opk, lim, bI, h, h2], by trivial⟩⟩⟩
  · subst e
    exact ⟨fun h => ⟨by simp [opk, lim, bI, h], by trivial⟩, fun h => ⟨fun h2 => ⟨by simp [opk, lim, bI, h, h2], by trivial⟩, fun h2 => ⟨by simp [opk, lim, bI, h, h2], by trivial⟩⟩⟩
  · have h9 := hm e
    refine ⟨fun h => ⟨fun h2 => bl_X2_isWorkable_1 ⟨h, ?_⟩, fun h2 => bl_X2_isWorkable_1 ⟨?_, ?_⟩⟩, fun h => ?_⟩
    · rw [mulm, if_neg h, if_pos h2] at h9
      exact h9
    · intro z
      have z2 := congrArg (fun t => -t) z
      exact h (by simpa using z2)
    · rw [mulm, if_neg h, if_neg h2] at h9
      exact h9
    · rw [mulm, if_pos h] at h9
      exact h9
  · subst e
    exact ⟨fun h => ⟨by simp [opk, bI, h], by trivial⟩, fun h => ⟨by simp [opk, bI, h], by trivial⟩⟩
  · obtain ⟨e1, e2, e3, e4⟩ := e
    refine ⟨?_, by trivial⟩
    simp only [opk, if_neg e1, if_neg e2, if_neg e3, if_neg e4]
    repeat' split
    all_goals rfl
theorem c_X2_joined {x0 : Int32} {l1 l3 : Int64} : Ctr l D d yX2_joined cX2_joined 5 (some .long) [.int x0, .long l1, .long l3] μ (pJ (fun v μ' => (∀ z, opk x0 l1 l3 = some z → v = z) ∧ μ' = μ)) := by
  refine en_X2_joined (fun Γ => bl_X2_joined_0 ?_)
  simp only [lg_cmp_gt, lg_cmp_lt, lg_cmp_ge, lg_cmp_le, lg_cmp_eq]
  refine ⟨fun e => ?_, fun e => ?_, fun e => ?_, fun e => ?_, fun e => ?_, fun e => ?_, fun e => ?_, fun e => ?_, fun e => ?_, fun e => ?_, fun e => ?_, fun e => ?_⟩
  · subst e
    exact ⟨fun h => bl_X2_joined_1 ⟨by simp [opk, jb, h], by trivial⟩, fun h => ⟨fun h2 => bl_X2_joined_1 ⟨by simp [opk, jb, h2], by trivial⟩, fun h2 => ⟨by simp [opk, jb, h, h2], by trivial⟩⟩⟩
  · subst e
    exact ⟨fun h => ⟨by simp [opk, jb, Int64.not_lt.mpr h], by trivial⟩, fun h => ⟨by simp [opk, jb, Int64.not_le.mp h], by trivial⟩⟩
  · subst e
    exact ⟨fun h => ⟨by simp [opk, jb, Int64.not_le.mpr h], by trivial⟩, fun h => ⟨by simp [opk, jb, Int64.not_lt.mp h], by trivial⟩⟩
  · subst e
    exact ⟨fun h => ⟨by simp [opk, jb, h], by trivial⟩, fun h => ⟨by simp [opk, jb, h], by trivial⟩⟩
  · subst e
    exact ⟨fun h => ⟨by simp [opk, jb, h], by trivial⟩, fun h => ⟨by simp [opk, jb, h], by trivial⟩⟩
  · subst e
    exact ⟨fun h => ⟨by simp [opk, jb, Int64.not_le.mpr h], by trivial⟩, fun h => ⟨by simp [opk, jb, Int64.not_lt.mp h], by trivial⟩⟩
  · subst e
    exact ⟨fun h => ⟨by simp [opk, jb, Int64.not_lt.mpr h], by trivial⟩, fun h => ⟨by simp [opk, jb, Int64.not_le.mp h], by trivial⟩⟩
  · subst e
    refine ⟨fun z hz => ?_, by trivial⟩
    simp only [opk, lim] at hz
    repeat' split at hz
    all_goals first | contradiction | (cases hz; rfl) | (simp at hz; done)
  · subst e
    refine ⟨fun z hz => ?_, by trivial⟩
    simp only [opk, lim] at hz
    repeat' split at hz
    all_goals first | contradiction | (cases hz; rfl) | (simp at hz; done)
  · subst e
    refine ⟨fun z hz => ?_, by trivial⟩
    simp only [opk] at hz
    repeat' split at hz
    all_goals first | contradiction | (cases hz; rfl) | (simp at hz; done)
  · subst e
    exact ⟨fun h => ⟨h, fun z hz => by simp [opk, h] at hz; exact hz, by trivial⟩, fun h => ⟨fun z hz => by simp [opk, h] at hz, by trivial⟩⟩
  · obtain ⟨e1, e2, e3, e4, e5, e6, e7, e8, e9, e10, e11⟩ := e
    have hz : opk x0 l1 l3 = some (jb (¬ l1 = 0 ∨ ¬ l3 = 0)) := by simp [opk, e1, e2, e3, e4, e5, e6, e7, e8, e9, e10, e11]
    rw [hz]
    exact ⟨fun h => bl_X2_joined_2 ⟨by simp [jb, h], by trivial⟩, fun h => ⟨fun h2 => ⟨by simp [jb, h, h2], by trivial⟩, fun h2 => bl_X2_joined_2 ⟨by simp [jb, h2], by trivial⟩⟩⟩
end OPC
