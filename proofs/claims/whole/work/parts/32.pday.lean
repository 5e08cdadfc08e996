/-! bounds of a person's day -/
theorem i32_le {x y : Int32} : x ≤ y ↔ x.toInt ≤ y.toInt := Int32.le_iff_toInt_le
theorem i32_lt {x y : Int32} : x < y ↔ x.toInt < y.toInt := Int32.lt_iff_toInt_lt
theorem i32_0 : (0 : Int32).toInt = 0 := by decide
theorem i32_1 : (1 : Int32).toInt = 1 := by decide
theorem i32_99 : (99 : Int32).toInt = 99 := by decide
theorem i32_999 : (999 : Int32).toInt = 999 := by decide
theorem imin_toInt (x y : Int32) : (imin x y).toInt = if y.toInt < x.toInt then y.toInt else x.toInt := by
  unfold imin
  by_cases h : y < x
  · rw [if_pos h, if_pos (i32_lt.mp h)]
  · rw [if_neg h, if_neg (fun z => h (i32_lt.mpr z))]
theorem imax_toInt (x y : Int32) : (imax x y).toInt = if x.toInt < y.toInt then y.toInt else x.toInt := by
  unfold imax
  by_cases h : x < y
  · rw [if_pos h, if_pos (i32_lt.mp h)]
  · rw [if_neg h, if_neg (fun z => h (i32_lt.mpr z))]
theorem rulF_rng {e : Option Int64} {most oth : Int32} (hm : 0 ≤ most.toInt) (ho : 0 ≤ oth.toInt ∧ oth.toInt ≤ most.toInt) : 0 ≤ (rulF e most oth).toInt ∧ (rulF e most oth).toInt ≤ most.toInt := by
  cases e with
  | none => exact ho
  | some v =>
    show 0 ≤ ((jmax (0 : Int64) (jmin most.toInt64 v)).toInt32).toInt ∧ ((jmax (0 : Int64) (jmin most.toInt64 v)).toInt32).toInt ≤ most.toInt
    have e0 : (0 : Int64).toInt = 0 := by decide
    have em : most.toInt64.toInt = most.toInt := Int32.toInt_toInt64 most
    have hb := fb_rng most
    have hj : ∃ z : Int64, jmax (0 : Int64) (jmin most.toInt64 v) = z ∧ 0 ≤ z.toInt ∧ z.toInt ≤ most.toInt := by
      refine ⟨_, rfl, ?_⟩
      unfold jmax jmin
      by_cases h1 : v < most.toInt64
      · rw [if_pos h1]
        have h1' := Int64.lt_iff_toInt_lt.mp h1
        by_cases h2 : v < 0
        · rw [if_pos h2]; omega
        · rw [if_neg h2]
          have h2' : ¬ v.toInt < 0 := fun z => h2 (Int64.lt_iff_toInt_lt.mpr (by omega))
          omega
      · rw [if_neg h1]
        by_cases h2 : most.toInt64 < 0
        · rw [if_pos h2]; omega
        · rw [if_neg h2]; omega
    obtain ⟨z, hz, z1, z2⟩ := hj
    rw [hz, Int64.toInt_toInt32, fb_bmod (by omega) (by omega)]
    exact ⟨z1, z2⟩
/-- a person as the text and the calls can make it -/
def pOk (P : Nat → Int32) : Prop := (0 ≤ (P 0).toInt ∧ (P 0).toInt ≤ 99) ∧ (0 ≤ (P 1).toInt ∧ (P 1).toInt ≤ 99) ∧ (0 ≤ (P 9).toInt ∧ (P 9).toInt ≤ 2000)
theorem dGr_rng {wet b : Int32} (h : 0 ≤ b.toInt ∧ b.toInt ≤ 99) : 0 ≤ (dGr wet b).toInt ∧ (dGr wet b).toInt ≤ 99 := by
  unfold dGr
  split
  · exact h
  · have e2 : (2 : Int32).toInt = 2 := by decide
    rw [Int32.toInt_div_of_ne_right _ _ (by decide), e2, Int.tdiv_eq_ediv_of_nonneg h.1]
    omega
theorem dC0_rng {band gr pc ln : Int32} (h1 : 0 ≤ gr.toInt ∧ gr.toInt ≤ 99) (h2 : 0 ≤ pc.toInt ∧ pc.toInt ≤ 2000) (h3 : 0 ≤ ln.toInt ∧ ln.toInt ≤ 2000) : 0 ≤ (dC0 band gr pc ln).toInt ∧ (dC0 band gr pc ln).toInt ≤ 5000 := by
  unfold dC0
  split
  · rw [fb_addI (by rw [i32_0]; omega) (by rw [i32_0]; omega), i32_0]
    omega
  · have e : (gr + pc).toInt = gr.toInt + pc.toInt := fb_addI (by omega) (by omega)
    rw [fb_addI (by omega) (by omega), e]
    omega
theorem dC1_rng {pc pls wet pv : Int32} {P : Nat → Int32} (hP : pOk P) (h2 : 0 ≤ pc.toInt ∧ pc.toInt ≤ 2000) : 0 ≤ (dC1 pc pls wet pv P).toInt ∧ (dC1 pc pls wet pv P).toInt ≤ 5000 := by
  unfold dC1
  split
  · have := hP.1; omega
  · exact dC0_rng (dGr_rng hP.2.1) h2 hP.2.2
theorem dHab_rng {row' row b : Int32} (h : 0 ≤ b.toInt ∧ b.toInt ≤ 99) : 0 ≤ (dHab row' row b).toInt ∧ (dHab row' row b).toInt ≤ 99 := by
  unfold dHab
  split
  · rw [imin_toInt, fb_addI (by rw [i32_1]; omega) (by rw [i32_1]; omega), i32_1, i32_99]
    split <;> omega
  · split
    · rw [imax_toInt, fb_subI (by rw [i32_1]; omega) (by rw [i32_1]; omega), i32_1, i32_0]
      split <;> omega
    · exact h
theorem pDay_ok {ev : Nat → Int32 → Int32 → Int32 → Option Int64} {bh : Int32 → Int32} {pr pc pu pn pf pls wet : Int32} {P : Nat → Int32} (hP : pOk P) (h2 : 0 ≤ pc.toInt ∧ pc.toInt ≤ 2000) : pOk (pDay ev bh pr pc pu pn pf pls wet P) ∧ (0 ≤ (P 4).toInt → (P 4).toInt ≤ 1000000 → (P 4).toInt ≤ (pDay ev bh pr pc pu pn pf pls wet P 4).toInt ∧ (pDay ev bh pr pc pu pn pf pls wet P 4).toInt ≤ (P 4).toInt + 999) := by
  have hc1 := dC1_rng (pls := pls) (wet := wet) (pv := dPv ev bh pc pu wet P) hP h2
  refine ⟨⟨?_, ?_, ?_⟩, fun h3 h4 => ?_⟩
  · exact hP.1
  · have e : pDay ev bh pr pc pu pn pf pls wet P 1 = rulF _ 99 (dHab _ (P 2) (P 1)) := rfl
    rw [e]
    have h5 := rulF_rng (e := ev 1 (dC1 pc pls wet (dPv ev bh pc pu wet P) P) (dRow (P 0) (dC1 pc pls wet (dPv ev bh pc pu wet P) P) (P 2)) (bh (P 4 + rulF (ev 2 (dC1 pc pls wet (dPv ev bh pc pu wet P) P) (dRow (P 0) (dC1 pc pls wet (dPv ev bh pc pu wet P) P) (P 2)) (bh (P 4))) 999 (imin (dC1 pc pls wet (dPv ev bh pc pu wet P) P) 999)))) (most := 99) (oth := dHab (dRow (P 0) (dC1 pc pls wet (dPv ev bh pc pu wet P) P) (P 2)) (P 2) (P 1)) (by rw [i32_99]; omega) (by rw [i32_99]; exact dHab_rng hP.2.1)
    rw [i32_99] at h5
    exact h5
  · have e : pDay ev bh pr pc pu pn pf pls wet P 9 = 0 := rfl
    rw [e, i32_0]
    omega
  · have e : pDay ev bh pr pc pu pn pf pls wet P 4 = P 4 + rulF (ev 2 (dC1 pc pls wet (dPv ev bh pc pu wet P) P) (dRow (P 0) (dC1 pc pls wet (dPv ev bh pc pu wet P) P) (P 2)) (bh (P 4))) 999 (imin (dC1 pc pls wet (dPv ev bh pc pu wet P) P) 999) := rfl
    have h5 := rulF_rng (e := ev 2 (dC1 pc pls wet (dPv ev bh pc pu wet P) P) (dRow (P 0) (dC1 pc pls wet (dPv ev bh pc pu wet P) P) (P 2)) (bh (P 4))) (most := 999) (oth := imin (dC1 pc pls wet (dPv ev bh pc pu wet P) P) 999) (by rw [i32_999]; omega) (by
      rw [imin_toInt, i32_999]
      split <;> omega)
    rw [i32_999] at h5
    rw [e, fb_addI (by omega) (by omega)]
    omega
/-! the greatest of some -/
theorem mxF_a (f : Nat → Int32) (gone : Int32) : ∀ (n i : Nat) (a : Int32), a.toInt ≤ (mxF f gone n i a).toInt := by
  intro n
  induction n with
  | zero => intro i a; exact Int.le_refl _
  | succ n ih =>
    intro i a
    refine Int.le_trans ?_ (ih (i + 1) _)
    split
    · exact Int.le_refl _
    · rw [imax_toInt]
      split <;> omega
theorem mxF_k (f : Nat → Int32) (gone : Int32) : ∀ (n i : Nat) (a : Int32) (k : Nat), i ≤ k → k < i + n → ¬ nI k = gone → (f k).toInt ≤ (mxF f gone n i a).toInt := by
  intro n
  induction n with
  | zero => intro i a k h1 h2; omega
  | succ n ih =>
    intro i a k h1 h2 h3
    by_cases hk : k = i
    · subst hk
      refine Int.le_trans ?_ (mxF_a f gone n (k + 1) _)
      rw [if_neg h3, imax_toInt]
      split <;> omega
    · exact ih (i + 1) _ k (by omega) (by omega) h3
theorem mxF_is (f : Nat → Int32) (gone : Int32) : ∀ (n i : Nat) (a : Int32), mxF f gone n i a = a ∨ ∃ k, i ≤ k ∧ k < i + n ∧ ¬ nI k = gone ∧ mxF f gone n i a = f k := by
  intro n
  induction n with
  | zero => intro i a; exact Or.inl rfl
  | succ n ih =>
    intro i a
    rcases ih (i + 1) (if nI i = gone then a else imax a (f i)) with h | ⟨k, h1, h2, h3, h4⟩
    · by_cases hg : nI i = gone
      · rw [if_pos hg] at h
        exact Or.inl (by simp only [mxF]; rw [if_pos hg]; exact h)
      · rw [if_neg hg] at h
        by_cases hz : a < f i
        · refine Or.inr ⟨i, Nat.le_refl i, by omega, hg, ?_⟩
          simp only [mxF]
          rw [if_neg hg, h, imax, if_pos hz]
        · refine Or.inl ?_
          simp only [mxF]
          rw [if_neg hg, h, imax, if_neg hz]
    · exact Or.inr ⟨k, by omega, by omega, h3, h4⟩
/-- the class's greatest and the reference's -/
theorem mxF_eq {f : Nat → Int32} {gone : Int32} {men p : Nat} {s : Int32} (hm : men ≤ 5) (hp : p < men) (hg : ¬ nI p = gone) (hs : f p = s) (h0 : ∀ k, k < 5 → 0 ≤ (f k).toInt) (hz : ∀ k, men ≤ k → k < 5 → f k = 0) : mxF f gone 5 0 s = mxF f gone men 0 0 := by
  have s0 : 0 ≤ s.toInt := by rw [← hs]; exact h0 p (by omega)
  have a1 := mxF_a f gone 5 0 s
  have b1 := mxF_a f gone men 0 0
  rw [i32_0] at b1
  apply Int32.toInt_inj.mp
  apply Int.le_antisymm
  · rcases mxF_is f gone 5 0 s with h | ⟨k, -, h2, h3, h4⟩
    · rw [h, ← hs]
      exact mxF_k f gone men 0 0 p (Nat.zero_le _) (by omega) hg
    · rw [h4]
      by_cases hk : k < men
      · exact mxF_k f gone men 0 0 k (Nat.zero_le _) (by omega) h3
      · rw [hz k (by omega) (by omega), i32_0]
        exact b1
  · rcases mxF_is f gone men 0 0 with h | ⟨k, -, h2, h3, h4⟩
    · rw [h, i32_0]
      omega
    · rw [h4]
      exact mxF_k f gone 5 0 s k (Nat.zero_le _) (by omega) h3
