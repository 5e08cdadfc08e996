/-! the class's signs and the reference's agree within the limit -/
theorem negL {x : Int64} (h : -1000000000000000 ≤ x.toInt ∧ x.toInt ≤ 1000000000000000) : (-x).toInt = -x.toInt := by
  rw [Int64.toInt_neg, fb_bmodL (by omega) (by omega)]
theorem jabs_toInt {x : Int64} (h : -1000000000000000 ≤ x.toInt ∧ x.toInt ≤ 1000000000000000) : (jabs x).toInt = if 0 ≤ x.toInt then x.toInt else -x.toInt := by
  unfold jabs
  have e0 : (0 : Int64).toInt = 0 := by decide
  have ei : (0 < x) ↔ 0 < x.toInt := by rw [Int64.lt_iff_toInt_lt, e0]
  by_cases h0 : 0 < x.toInt
  · rw [if_pos (ei.mpr h0), if_pos (by omega)]
  · rw [if_neg (fun z => h0 (ei.mp z)), negL h]
    by_cases h1 : 0 ≤ x.toInt
    · rw [if_pos h1]; omega
    · rw [if_neg h1]
theorem pabs_toInt {x : Int64} (h : -1000000000000000 ≤ x.toInt ∧ x.toInt ≤ 1000000000000000) : (if 0 ≤ x then x else -x).toInt = if 0 ≤ x.toInt then x.toInt else -x.toInt := by
  have e0 : (0 : Int64).toInt = 0 := by decide
  have ei : (0 ≤ x) ↔ 0 ≤ x.toInt := by rw [Int64.le_iff_toInt_le, e0]
  by_cases h0 : 0 ≤ x.toInt
  · rw [if_pos (ei.mpr h0), if_pos h0]
  · rw [if_neg (fun z => h0 (ei.mp z)), if_neg h0, negL h]
theorem limdiv {z : Int64} (h : 0 < z.toInt) : ((1000000000000 : Int64) / z).toInt = 1000000000000 / z.toInt := by
  rw [Int64.toInt_div_of_ne_left _ _ (by decide)]
  have e1 : (1000000000000 : Int64).toInt = 1000000000000 := by decide
  rw [e1, Int.tdiv_eq_ediv_of_nonneg (by decide)]
theorem eq0_toInt {x : Int64} : x = 0 ↔ x.toInt = 0 := by
  rw [← Int64.toInt_inj]
  have e0 : (0 : Int64).toInt = 0 := by decide
  rw [e0]
theorem lim_in {v : Int64} (h : inL v) : lim v = some v := by
  unfold lim
  rw [if_neg h.1, if_neg h.2]
theorem mul_bound {a b : Int} {L : Int} (ha : 0 < a) (hL : 0 ≤ L) (hb : 0 ≤ b) (h : b ≤ L / a) : a * b ≤ L := by
  have h1 : a * b ≤ a * (L / a) := Int.mul_le_mul_of_nonneg_left h (by omega)
  have h2 := Int.mul_ediv_self_le (x := L) (k := a) (by omega)
  omega
theorem mul_in {x y : Int64} (hx : inL x) (hy : inL y) (h0 : ¬ x = 0) (h : (jabs y).toInt ≤ 1000000000000 / (jabs x).toInt) : inL (x * y) := by
  rw [inL_iff] at hx hy
  rw [jabs_toInt (by omega), jabs_toInt (by omega)] at h
  rw [eq0_toInt] at h0
  have key : -1000000000000 ≤ x.toInt * y.toInt ∧ x.toInt * y.toInt ≤ 1000000000000 := by
    by_cases hX : 0 ≤ x.toInt
    · rw [if_pos hX] at h
      by_cases hY : 0 ≤ y.toInt
      · rw [if_pos hY] at h
        have := mul_bound (by omega) (by omega) hY h
        have := Int.mul_nonneg hX hY
        omega
      · rw [if_neg hY] at h
        have h1 := mul_bound (a := x.toInt) (b := -y.toInt) (by omega) (by omega) (by omega) h
        have h2 := Int.mul_nonneg hX (show 0 ≤ -y.toInt by omega)
        rw [Int.mul_neg] at h1 h2
        omega
    · rw [if_neg hX] at h
      by_cases hY : 0 ≤ y.toInt
      · rw [if_pos hY] at h
        have h1 := mul_bound (a := -x.toInt) (b := y.toInt) (by omega) (by omega) (by omega) h
        have h2 := Int.mul_nonneg (show 0 ≤ -x.toInt by omega) hY
        rw [Int.neg_mul] at h1 h2
        omega
      · rw [if_neg hY] at h
        have h1 := mul_bound (a := -x.toInt) (b := -y.toInt) (by omega) (by omega) (by omega) h
        have h2 := Int.mul_nonneg (show 0 ≤ -x.toInt by omega) (show 0 ≤ -y.toInt by omega)
        rw [Int.neg_mul_neg] at h1 h2
        omega
  rw [inL_iff, fb_mulL (by omega) (by omega)]
  exact key
theorem tdiv_bound {a b : Int} {L : Int} (h1 : -L ≤ a) (h2 : a ≤ L) : -L ≤ a.tdiv b ∧ a.tdiv b ≤ L := by
  have h3 : (a.tdiv b).natAbs ≤ a.natAbs := by rw [Int.natAbs_tdiv]; exact Nat.div_le_self _ _
  omega
theorem div_in {x y : Int64} (hx : inL x) : inL (x / y) := by
  rw [inL_iff] at hx ⊢
  have hm : x ≠ Int64.minValue := by
    intro e
    rw [e] at hx
    exact absurd hx.1 (by decide)
  rw [Int64.toInt_div_of_ne_left _ _ hm]
  exact tdiv_bound hx.1 hx.2
theorem opk_opm (k : Int32) {x y : Int64} (hx : inL x) (hy : inL y) : opk k x y = opm (sgk k) x y := by
  by_cases h1 : k = 27
  · subst h1; simp [opk, opm, sgk]
  by_cases h2 : k = 28
  · subst h2; simp [opk, opm, sgk]
  by_cases h3 : k = 29
  · subst h3
    have g1 : opk 29 x y = (if mulm x < y then none else if y < -mulm x then none else some (x * y)) := by simp [opk]
    have g2 : opm (sgk 29) x y = (if ¬ x = 0 ∧ (1000000000000 : Int64) / jabs x < jabs y then none else lim (x * y)) := by simp [opm, sgk]
    rw [g1, g2]
    by_cases h0 : x = 0
    · rw [if_neg (c := ¬ x = 0 ∧ _) (fun z => z.1 h0)]
      have e1 : mulm x = 1000000000000 := by rw [mulm, if_pos h0]
      rw [e1, if_neg hy.1, if_neg hy.2]
      subst h0
      rw [Int64.zero_mul]
      exact (lim_in ⟨by decide, by decide⟩).symm
    · have bx := inL_iff.mp hx
      have bY := inL_iff.mp hy
      have hxn : x.toInt ≠ 0 := fun z => h0 (eq0_toInt.mpr z)
      have ja := jabs_toInt (x := x) (by omega)
      have jy := jabs_toInt (x := y) (by omega)
      have pa := pabs_toInt (x := x) (by omega)
      have hpos : 0 < (jabs x).toInt := by rw [ja]; split <;> omega
      have m1 : mulm x = (1000000000000 : Int64) / (if 0 ≤ x then x else -x) := by rw [mulm, if_neg h0]
      have mt : (mulm x).toInt = 1000000000000 / (jabs x).toInt := by rw [m1, limdiv (by rw [pa, ← ja]; exact hpos), pa, ja]
      have d0 : 0 ≤ 1000000000000 / (jabs x).toInt := Int.ediv_nonneg (by decide) (by omega)
      have d1 : 1000000000000 / (jabs x).toInt ≤ 1000000000000 := Int.ediv_le_self _ (by decide)
      have e1 : (mulm x < y) ↔ 1000000000000 / (jabs x).toInt < y.toInt := by rw [Int64.lt_iff_toInt_lt, mt]
      have e2 : (y < -mulm x) ↔ y.toInt < -(1000000000000 / (jabs x).toInt) := by rw [Int64.lt_iff_toInt_lt, negL (by rw [mt]; omega), mt]
      have e3 : ((1000000000000 : Int64) / jabs x < jabs y) ↔ 1000000000000 / (jabs x).toInt < (jabs y).toInt := by rw [Int64.lt_iff_toInt_lt, limdiv hpos]
      by_cases hc : 1000000000000 / (jabs x).toInt < (jabs y).toInt
      · rw [if_pos (c := ¬ x = 0 ∧ _) ⟨h0, e3.mpr hc⟩]
        rw [jy] at hc
        by_cases hY : 0 ≤ y.toInt
        · rw [if_pos hY] at hc
          rw [if_pos (e1.mpr hc)]
        · rw [if_neg hY] at hc
          rw [if_neg (fun z => by have := e1.mp z; omega), if_pos (e2.mpr (by omega))]
      · rw [if_neg (c := ¬ x = 0 ∧ _) (fun z => hc (e3.mp z.2)), lim_in (mul_in hx hy h0 (by omega))]
        rw [jy] at hc
        rw [if_neg (fun z => by have := e1.mp z; split at hc <;> omega), if_neg (fun z => by have := e2.mp z; split at hc <;> omega)]
  by_cases h4 : k = 30
  · subst h4
    have g1 : opk 30 x y = (if y = 0 then none else some (x / y)) := by simp [opk]
    have g2 : opm (sgk 30) x y = (if y = 0 then none else lim (x / y)) := by simp [opm, sgk]
    rw [g1, g2]
    rw [lim_in (div_in hx)]
  by_cases h5 : k = 21
  · subst h5; simp [opk, opm, sgk]
  by_cases h6 : k = 22
  · subst h6; simp [opk, opm, sgk]
  by_cases h7 : k = 23
  · subst h7; simp [opk, opm, sgk]
  by_cases h8 : k = 24
  · subst h8; simp [opk, opm, sgk]
  by_cases h9 : k = 25
  · subst h9; simp [opk, opm, sgk]
  by_cases h10 : k = 26
  · subst h10; simp [opk, opm, sgk]
  by_cases h11 : k = 12
  · subst h11; simp [opk, opm, sgk]
  by_cases h12 : k = 13
  · subst h12; simp [opk, opm, sgk]
  simp only [opk, sgk, if_neg h1, if_neg h2, if_neg h3, if_neg h4, if_neg h5, if_neg h6, if_neg h7, if_neg h8, if_neg h9, if_neg h10, if_neg h11, if_neg h12]
  simp [opm]
theorem opm_in {s : Int32} {x y z : Int64} (h : opm s x y = some z) : inL z := by
  unfold opm at h
  repeat' split at h
  all_goals first | (cases h; done) | exact (lim_some h).2 | (cases h; exact inL_jb _)
