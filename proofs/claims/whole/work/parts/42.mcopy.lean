/-! the reference: weeks copied, begun -/
/-- week a is laid by D3 (day, wet, drawn), the first j people by D5, the first c times by DT -/
def mlay (μ : gMem) (D3 : Nat → Int32) (D5 : Nat → Nat → Int32) (DT : Nat → Int32) (a j c : Nat) : gMem := (fun k i z => if i = 0 ∧ 737 ≤ k ∧ k ≤ 739 ∧ z = a then D3 k else if i = 0 ∧ 740 ≤ k ∧ k ≤ 750 ∧ 5 * a ≤ z ∧ z < 5 * a + j then D5 k (z - 5 * a) else if i = 0 ∧ k = 751 ∧ 30 * a ≤ z ∧ z < 30 * a + c then DT (z - 30 * a) else μ.1 k i z, μ.2)
section ML
variable {μ : gMem} {D3 : Nat → Int32} {D5 : Nat → Nat → Int32} {DT : Nat → Int32} {a j c : Nat}
theorem gMem_ext {μ μ' : gMem} (h1 : ∀ k i z, μ.1 k i z = μ'.1 k i z) (h2 : μ.2 = μ'.2) : μ = μ' := Prod.ext (funext fun k => funext fun i => funext fun z => h1 k i z) h2
theorem gsI_at {μ : gMem} {k i j k' i' j' : Nat} {v : Int32} : (gsI μ k i j v).1 k' i' j' = if k' = k ∧ i' = i ∧ j' = j then v else μ.1 k' i' j' := rfl
theorem mlay_0 : gsI (gsI (gsI μ 737 0 a (D3 737)) 738 0 a (D3 738)) 739 0 a (D3 739) = mlay μ D3 D5 DT a 0 0 := by
  refine gMem_ext (fun k i z => ?_) rfl
  rw [gsI_at, gsI_at, gsI_at]
  simp only [mlay]
  by_cases h : i = 0 ∧ 737 ≤ k ∧ k ≤ 739 ∧ z = a
  · obtain ⟨rfl, h1, h2, rfl⟩ := h
    rcases (by omega : k = 737 ∨ k = 738 ∨ k = 739) with rfl | rfl | rfl <;> simp
  · rw [if_neg h, if_neg (by omega), if_neg (by omega), if_neg (by omega), if_neg (by omega), if_neg (by omega)]
set_option maxHeartbeats 2000000 in
theorem mlay_p : gsI (gsI (gsI (gsI (gsI (gsI (gsI (gsI (gsI (gsI (gsI (mlay μ D3 D5 DT a j 0) 740 0 (5 * a + j) (D5 740 j)) 741 0 (5 * a + j) (D5 741 j)) 742 0 (5 * a + j) (D5 742 j)) 743 0 (5 * a + j) (D5 743 j)) 744 0 (5 * a + j) (D5 744 j)) 745 0 (5 * a + j) (D5 745 j)) 746 0 (5 * a + j) (D5 746 j)) 747 0 (5 * a + j) (D5 747 j)) 748 0 (5 * a + j) (D5 748 j)) 749 0 (5 * a + j) (D5 749 j)) 750 0 (5 * a + j) (D5 750 j) = mlay μ D3 D5 DT a (j + 1) 0 := by
  refine gMem_ext (fun k i z => ?_) rfl
  simp only [gsI_at]
  by_cases h : i = 0 ∧ 740 ≤ k ∧ k ≤ 750 ∧ z = 5 * a + j
  · obtain ⟨rfl, h1, h2, rfl⟩ := h
    have e : (mlay μ D3 D5 DT a (j + 1) 0).1 k 0 (5 * a + j) = D5 k j := by
      show (if (0 : Nat) = 0 ∧ 737 ≤ k ∧ k ≤ 739 ∧ 5 * a + j = a then D3 k else if (0 : Nat) = 0 ∧ 740 ≤ k ∧ k ≤ 750 ∧ 5 * a ≤ 5 * a + j ∧ 5 * a + j < 5 * a + (j + 1) then D5 k (5 * a + j - 5 * a) else _) = _
      rw [if_neg (show ¬ ((0 : Nat) = 0 ∧ 737 ≤ k ∧ k ≤ 739 ∧ 5 * a + j = a) by omega), if_pos (by omega), Nat.add_sub_cancel_left]
    rw [e]
    rcases (by omega : k = 740 ∨ k = 741 ∨ k = 742 ∨ k = 743 ∨ k = 744 ∨ k = 745 ∨ k = 746 ∨ k = 747 ∨ k = 748 ∨ k = 749 ∨ k = 750) with rfl | rfl | rfl | rfl | rfl | rfl | rfl | rfl | rfl | rfl | rfl <;> simp
  · have e : (mlay μ D3 D5 DT a (j + 1) 0).1 k i z = (mlay μ D3 D5 DT a j 0).1 k i z := by
      simp only [mlay]
      by_cases h1 : i = 0 ∧ 740 ≤ k ∧ k ≤ 750 ∧ 5 * a ≤ z ∧ z < 5 * a + j
      · rw [if_neg (show ¬ (i = 0 ∧ 737 ≤ k ∧ k ≤ 739 ∧ z = a) by omega), if_neg (show ¬ (i = 0 ∧ 737 ≤ k ∧ k ≤ 739 ∧ z = a) by omega), if_pos (show i = 0 ∧ 740 ≤ k ∧ k ≤ 750 ∧ 5 * a ≤ z ∧ z < 5 * a + (j + 1) by omega), if_pos h1]
      · rw [if_neg (show ¬ (i = 0 ∧ 740 ≤ k ∧ k ≤ 750 ∧ 5 * a ≤ z ∧ z < 5 * a + (j + 1)) by omega), if_neg h1]
    rw [e]
    repeat rw [if_neg (by omega)]
theorem mlay_t : gsI (mlay μ D3 D5 DT a 5 c) 751 0 (30 * a + c) (DT c) = mlay μ D3 D5 DT a 5 (c + 1) := by
  refine gMem_ext (fun k i z => ?_) rfl
  rw [gsI_at]
  simp only [mlay]
  by_cases h : k = 751 ∧ i = 0 ∧ z = 30 * a + c
  · obtain ⟨rfl, rfl, rfl⟩ := h
    rw [if_pos ⟨rfl, rfl, rfl⟩, if_neg (by omega), if_neg (by omega), if_pos (by omega), Nat.add_sub_cancel_left]
  · rw [if_neg h]
    by_cases h1 : i = 0 ∧ k = 751 ∧ 30 * a ≤ z ∧ z < 30 * a + c
    · rw [if_pos h1, if_pos (show i = 0 ∧ k = 751 ∧ 30 * a ≤ z ∧ z < 30 * a + (c + 1) by omega)]
    · rw [if_neg h1, if_neg (show ¬ (i = 0 ∧ k = 751 ∧ 30 * a ≤ z ∧ z < 30 * a + (c + 1)) by omega)]
theorem mlay_off {k i z : Nat} (h : ¬ (i = 0 ∧ 737 ≤ k ∧ k ≤ 739 ∧ z = a)) (h2 : ¬ (i = 0 ∧ 740 ≤ k ∧ k ≤ 750 ∧ 5 * a ≤ z ∧ z < 5 * a + j)) (h3 : ¬ (i = 0 ∧ k = 751 ∧ 30 * a ≤ z ∧ z < 30 * a + c)) : (mlay μ D3 D5 DT a j c).1 k i z = μ.1 k i z := by
  simp only [mlay]
  rw [if_neg h, if_neg h2, if_neg h3]
end ML
/-- week a as week b -/
def mcp (μ : gMem) (a b : Nat) : gMem := mlay μ (fun k => μ.1 k 0 b) (fun k p => μ.1 k 0 (5 * b + p)) (fun q => μ.1 751 0 (30 * b + q)) a 5 30
/-- people as they begin -/
def stV (μ : gMem) (k p : Nat) : Int32 := if k = 740 then (if μ.1 707 0 0 ≤ nI p then 0 else μ.1 709 0 p) else if k = 741 then (if μ.1 707 0 0 ≤ nI p then 0 else μ.1 710 0 p) else if k = 747 then 1 else 0
def mst (μ : gMem) (a : Nat) : gMem := mlay μ (fun k => if k = 739 then μ.1 707 0 8 else 0) (stV μ) (fun q => μ.1 716 0 q) a 5 30
theorem ix30b (a q : Nat) : ((30 : Int32) * nI a) + nI q = nI (30 * a + q) := by
  have e : (30 : Int32) = nI 30 := rfl
  rw [e, pk_mul, nI_add]
section MC
variable {l : Launch} {D : gD} {d : Nat} {μ : gMem}
theorem copies_t {Γ : gC} {q : gMem → Prop} {a b : Nat} (ha : a < 23) (hb : b < 23) (hne : ¬ a = b) (hq : q (mcp μ a b)) : ∀ c j : Nat, j + c = 30 → pt_X10_copies_2 l D d q Γ 0 (nI a) (nI b) (nI j) (mlay μ (fun k => μ.1 k 0 b) (fun k p => μ.1 k 0 (5 * b + p)) (fun q => μ.1 751 0 (30 * b + q)) a 5 j) := by
  have e30 : (30 : Int32) = nI 30 := rfl
  intro c
  induction c with
  | zero =>
    intro j hj
    obtain rfl : j = 30 := by omega
    refine bl_X10_copies_2 (by decide) ⟨fun _ => hq, fun h => ?_⟩
    rw [e30] at h
    exact absurd (nI_le (Nat.le_refl _) (by omega)) h
  | succ c ih =>
    intro j hj
    refine bl_X10_copies_2 (by decide) ⟨fun h => ?_, fun _ => ⟨30 * b + j, by omega, ix30b b j, 30 * a + j, by omega, ix30b a j, ?_⟩⟩
    · rw [e30] at h
      exact absurd h (nI_ge (by omega) (by omega))
    · rintro _ rfl _ rfl
      rw [nI_1, mlay_off (by omega) (by omega) (by omega)]
      have := mlay_t (μ := μ) (D3 := fun k => μ.1 k 0 b) (D5 := fun k p => μ.1 k 0 (5 * b + p)) (DT := fun q => μ.1 751 0 (30 * b + q)) (a := a) (c := j)
      rw [show gsI (mlay μ (fun k => μ.1 k 0 b) (fun k p => μ.1 k 0 (5 * b + p)) (fun q => μ.1 751 0 (30 * b + q)) a 5 j) 751 0 (30 * a + j) (μ.1 751 0 (30 * b + j)) = _ from this]
      exact ih (j + 1) (by omega)
set_option maxHeartbeats 2000000 in
theorem copies_p {Γ : gC} {q : gMem → Prop} {a b : Nat} (ha : a < 23) (hb : b < 23) (hne : ¬ a = b) (hq : q (mcp μ a b)) : ∀ c j : Nat, j + c = 5 → pt_X10_copies_1 l D d q Γ 0 (nI a) (nI b) (nI j) (mlay μ (fun k => μ.1 k 0 b) (fun k p => μ.1 k 0 (5 * b + p)) (fun q => μ.1 751 0 (30 * b + q)) a j 0) := by
  have e5 : (5 : Int32) = nI 5 := rfl
  intro c
  induction c with
  | zero =>
    intro j hj
    obtain rfl : j = 5 := by omega
    refine bl_X10_copies_1 (by decide) ⟨fun _ => ?_, fun h => ?_⟩
    · rintro _ rfl
      exact copies_t ha hb hne hq 30 0 (by omega)
    · rw [e5] at h
      exact absurd (nI_le (Nat.le_refl _) (by omega)) h
  | succ c ih =>
    intro j hj
    refine bl_X10_copies_1 (by decide) ⟨fun h => ?_, fun _ => ?_⟩
    · rw [e5] at h
      exact absurd h (nI_ge (by omega) (by omega))
    · rw [ix5 a j, ix5 b j]
      rintro _ rfl _ rfl
      obtain ⟨ν, eν⟩ : ∃ ν, ν = mlay μ (fun k => μ.1 k 0 b) (fun k p => μ.1 k 0 (5 * b + p)) (fun q => μ.1 751 0 (30 * b + q)) a j 0 := ⟨_, rfl⟩
      rw [← eν]
      have src : ∀ k, 740 ≤ k → k ≤ 750 → ν.1 k 0 (5 * b + j) = μ.1 k 0 (5 * b + j) := fun k h1 h2 => by rw [eν, mlay_off (by omega) (by omega) (by omega)]
      have hA : 5 * a + j < 115 := by omega
      have hB : 5 * b + j < 115 := by omega
      refine ⟨_, hB, rfl, _, hA, rfl, ?_⟩
      rintro μ1 e1
      refine ⟨_, hB, rfl, _, hA, rfl, ?_⟩
      rintro μ2 e2
      refine ⟨_, hB, rfl, _, hA, rfl, ?_⟩
      rintro μ3 e3
      refine ⟨_, hB, rfl, _, hA, rfl, ?_⟩
      rintro μ4 e4
      refine ⟨_, hB, rfl, _, hA, rfl, ?_⟩
      rintro μ5 e5'
      refine ⟨_, hB, rfl, _, hA, rfl, ?_⟩
      rintro μ6 e6
      refine ⟨_, hB, rfl, _, hA, rfl, ?_⟩
      rintro μ7 e7
      refine ⟨_, hB, rfl, _, hA, rfl, ?_⟩
      rintro μ8 e8
      refine ⟨_, hB, rfl, _, hA, rfl, ?_⟩
      rintro μ9 e9
      refine ⟨_, hB, rfl, _, hA, rfl, ?_⟩
      rintro μ10 e10
      refine ⟨_, hB, rfl, _, hA, rfl, ?_⟩
      rintro μ11 e11 _ rfl
      have o1 : ∀ k, 740 < k → μ1.1 k 0 = ν.1 k 0 := fun k h => by rw [e1, gsI_off (by omega)]
      have o2 : ∀ k, 741 < k → μ2.1 k 0 = ν.1 k 0 := fun k h => by rw [e2, gsI_off (by omega), o1 k (by omega)]
      have o3 : ∀ k, 742 < k → μ3.1 k 0 = ν.1 k 0 := fun k h => by rw [e3, gsI_off (by omega), o2 k (by omega)]
      have o4 : ∀ k, 743 < k → μ4.1 k 0 = ν.1 k 0 := fun k h => by rw [e4, gsI_off (by omega), o3 k (by omega)]
      have o5 : ∀ k, 744 < k → μ5.1 k 0 = ν.1 k 0 := fun k h => by rw [e5', gsI_off (by omega), o4 k (by omega)]
      have o6 : ∀ k, 745 < k → μ6.1 k 0 = ν.1 k 0 := fun k h => by rw [e6, gsI_off (by omega), o5 k (by omega)]
      have o7 : ∀ k, 746 < k → μ7.1 k 0 = ν.1 k 0 := fun k h => by rw [e7, gsI_off (by omega), o6 k (by omega)]
      have o8 : ∀ k, 747 < k → μ8.1 k 0 = ν.1 k 0 := fun k h => by rw [e8, gsI_off (by omega), o7 k (by omega)]
      have o9 : ∀ k, 748 < k → μ9.1 k 0 = ν.1 k 0 := fun k h => by rw [e9, gsI_off (by omega), o8 k (by omega)]
      have o10 : ∀ k, 749 < k → μ10.1 k 0 = ν.1 k 0 := fun k h => by rw [e10, gsI_off (by omega), o9 k (by omega)]
      rw [src 740 (by omega) (by omega)] at e1
      rw [o1 741 (by omega), src 741 (by omega) (by omega)] at e2
      rw [o2 742 (by omega), src 742 (by omega) (by omega)] at e3
      rw [o3 743 (by omega), src 743 (by omega) (by omega)] at e4
      rw [o4 744 (by omega), src 744 (by omega) (by omega)] at e5'
      rw [o5 745 (by omega), src 745 (by omega) (by omega)] at e6
      rw [o6 746 (by omega), src 746 (by omega) (by omega)] at e7
      rw [o7 747 (by omega), src 747 (by omega) (by omega)] at e8
      rw [o8 748 (by omega), src 748 (by omega) (by omega)] at e9
      rw [o9 749 (by omega), src 749 (by omega) (by omega)] at e10
      rw [o10 750 (by omega), src 750 (by omega) (by omega)] at e11
      have fin : μ11 = mlay μ (fun k => μ.1 k 0 b) (fun k p => μ.1 k 0 (5 * b + p)) (fun q => μ.1 751 0 (30 * b + q)) a (j + 1) 0 := by
        rw [← mlay_p, e11, e10, e9, e8, e7, e6, e5', e4, e3, e2, e1, eν]
      rw [nI_1, fin]
      exact ih (j + 1) (by omega)
theorem c_X10_copies {a b : Nat} (ha : a < 23) (hb : b < 23) (hne : ¬ a = b) : Ctr l D d yX10_copies cX10_copies 6 none [.ref (D.2.2 10 0), .int (nI a), .int (nI b)] μ (pV (fun μ' => μ' = mcp μ a b)) := by
  refine en_X10_copies (fun Γ => bl_X10_copies_0 (by decide) ⟨b, hb, rfl, a, ha, rfl, ?_⟩)
  rintro μ1 e1
  refine ⟨b, hb, rfl, a, ha, rfl, ?_⟩
  rintro μ2 e2
  refine ⟨b, hb, rfl, a, ha, rfl, ?_⟩
  rintro μ3 e3 _ rfl
  have h1 : μ1.1 738 0 b = μ.1 738 0 b := by rw [e1, gsI_off (by omega)]
  have h2 : μ2.1 739 0 b = μ.1 739 0 b := by rw [e2, gsI_off (by omega), e1, gsI_off (by omega)]
  rw [h1] at e2
  rw [h2] at e3
  have fin : μ3 = mlay μ (fun k => μ.1 k 0 b) (fun k p => μ.1 k 0 (5 * b + p)) (fun q => μ.1 751 0 (30 * b + q)) a 0 0 := by
    rw [← mlay_0, e3, e2, e1]
  rw [fin]
  exact copies_p (q := fun μ' => μ' = mcp μ a b) ha hb hne rfl 5 0 (by omega)
theorem starts_t {Γ : gC} {q : gMem → Prop} {a : Nat} (ha : a < 23) (hq : q (mst μ a)) : ∀ c j : Nat, j + c = 30 → pt_X10_starts_5 l D d q Γ 0 (nI a) (nI j) (mlay μ (fun k => if k = 739 then μ.1 707 0 8 else 0) (stV μ) (fun q => μ.1 716 0 q) a 5 j) := by
  have e30 : (30 : Int32) = nI 30 := rfl
  intro c
  induction c with
  | zero =>
    intro j hj
    obtain rfl : j = 30 := by omega
    refine bl_X10_starts_5 (by decide) ⟨fun _ => hq, fun h => ?_⟩
    rw [e30] at h
    exact absurd (nI_le (Nat.le_refl _) (by omega)) h
  | succ c ih =>
    intro j hj
    refine bl_X10_starts_5 (by decide) ⟨fun h => ?_, fun _ => ⟨j, by omega, rfl, 30 * a + j, by omega, ix30b a j, ?_⟩⟩
    · rw [e30] at h
      exact absurd h (nI_ge (by omega) (by omega))
    · rintro _ rfl _ rfl
      rw [nI_1, mlay_off (by omega) (by omega) (by omega)]
      have := mlay_t (μ := μ) (D3 := fun k => if k = 739 then μ.1 707 0 8 else 0) (D5 := stV μ) (DT := fun q => μ.1 716 0 q) (a := a) (c := j)
      rw [show gsI (mlay μ (fun k => if k = 739 then μ.1 707 0 8 else 0) (stV μ) (fun q => μ.1 716 0 q) a 5 j) 751 0 (30 * a + j) (μ.1 716 0 j) = _ from this]
      exact ih (j + 1) (by omega)
set_option maxHeartbeats 2000000 in
theorem starts_p {Γ : gC} {q : gMem → Prop} {a : Nat} (ha : a < 23) (hq : q (mst μ a)) : ∀ c j : Nat, j + c = 5 → pt_X10_starts_1 l D d q Γ 0 (nI a) (nI j) (mlay μ (fun k => if k = 739 then μ.1 707 0 8 else 0) (stV μ) (fun q => μ.1 716 0 q) a j 0) := by
  have e5 : (5 : Int32) = nI 5 := rfl
  intro c
  induction c with
  | zero =>
    intro j hj
    obtain rfl : j = 5 := by omega
    refine bl_X10_starts_1 (by decide) ⟨fun _ => ?_, fun h => ?_⟩
    · rintro _ rfl
      exact starts_t ha hq 30 0 (by omega)
    · rw [e5] at h
      exact absurd (nI_le (Nat.le_refl _) (by omega)) h
  | succ c ih =>
    intro j hj
    obtain ⟨ν, eν⟩ : ∃ ν, ν = mlay μ (fun k => if k = 739 then μ.1 707 0 8 else 0) (stV μ) (fun q => μ.1 716 0 q) a j 0 := ⟨_, rfl⟩
    rw [← eν]
    have hA : 5 * a + j < 115 := by omega
    have src : ∀ k, k < 737 → ν.1 k 0 = μ.1 k 0 := fun k h1 => by funext z; rw [eν, mlay_off (by omega) (by omega) (by omega)]
    have four : ∀ μ0 v, μ0 = gsI ν 740 0 (5 * a + j) (stV μ 740 j) → v = stV μ 741 j → pt_X10_starts_4 l D d q Γ 0 (nI a) (nI j) (nI (5 * a + j)) 0 (nI (5 * a + j)) v μ0 := by
      rintro μ0 v e0 rfl
      refine bl_X10_starts_4 (by decide) (by decide) ⟨_, hA, rfl, ?_⟩
      rintro μ2 e2
      refine ⟨_, hA, rfl, ?_⟩
      rintro μ3 e3
      refine ⟨_, hA, rfl, ?_⟩
      rintro μ4 e4
      refine ⟨_, hA, rfl, ?_⟩
      rintro μ5 e5'
      refine ⟨_, hA, rfl, ?_⟩
      rintro μ6 e6
      refine ⟨_, hA, rfl, ?_⟩
      rintro μ7 e7
      refine ⟨_, hA, rfl, ?_⟩
      rintro μ8 e8
      refine ⟨_, hA, rfl, ?_⟩
      rintro μ9 e9
      refine ⟨_, hA, rfl, ?_⟩
      rintro μ10 e10
      refine ⟨_, hA, rfl, ?_⟩
      rintro μ11 e11 _ rfl
      have fin : μ11 = mlay μ (fun k => if k = 739 then μ.1 707 0 8 else 0) (stV μ) (fun q => μ.1 716 0 q) a (j + 1) 0 := by
        rw [← mlay_p, e11, e10, e9, e8, e7, e6, e5', e4, e3, e2, e0, eν]
        rfl
      rw [nI_1, fin]
      exact ih (j + 1) (by omega)
    refine bl_X10_starts_1 (by decide) ⟨fun h => ?_, fun _ => ?_⟩
    · rw [e5] at h
      exact absurd h (nI_ge (by omega) (by omega))
    · rw [ix5 a j, src 707 (by omega)]
      rintro _ rfl
      refine ⟨fun h => bl_X10_starts_2 (by decide) ?_, fun h => bl_X10_starts_2 (by decide) ?_⟩
      · rintro _ rfl
        refine ⟨fun _ => bl_X10_starts_3 (by decide) (by decide) ⟨_, hA, rfl, ?_⟩, fun h => absurd rfl h⟩
        rintro μ1 e1
        exact ⟨fun _ => four μ1 0 (by rw [e1, stV, if_pos rfl, if_pos h]) (by rw [stV, if_neg (by omega), if_pos rfl, if_pos h]), fun h => absurd rfl h⟩
      · rintro _ rfl
        refine ⟨fun h => absurd h (by decide), fun _ => ⟨j, by omega, rfl, bl_X10_starts_3 (by decide) (by decide) ⟨_, hA, rfl, ?_⟩⟩⟩
        rintro μ1 e1
        rw [src 709 (by omega)] at e1
        refine ⟨fun h => absurd h (by decide), fun _ => ⟨j, by omega, rfl, four μ1 _ (by rw [e1, stV, if_pos rfl, if_neg h]) (by rw [stV, if_neg (by omega), if_pos rfl, if_neg h, e1, gsI_off (by omega), src 710 (by omega)])⟩⟩
theorem c_X10_starts {a : Nat} (ha : a < 23) : Ctr l D d yX10_starts cX10_starts 5 none [.ref (D.2.2 10 0), .int (nI a)] μ (pV (fun μ' => μ' = mst μ a)) := by
  refine en_X10_starts (fun Γ => bl_X10_starts_0 (by decide) ⟨a, ha, rfl, ?_⟩)
  rintro μ1 e1
  refine ⟨a, ha, rfl, ?_⟩
  rintro μ2 e2
  refine ⟨a, ha, rfl, ?_⟩
  rintro μ3 e3 _ rfl
  have h2 : μ2.1 707 0 8 = μ.1 707 0 8 := by rw [e2, gsI_off (by omega), e1, gsI_off (by omega)]
  rw [h2] at e3
  have fin : μ3 = mlay μ (fun k => if k = 739 then μ.1 707 0 8 else 0) (stV μ) (fun q => μ.1 716 0 q) a 0 0 := by
    rw [← mlay_0, e3, e2, e1]
    rfl
  rw [fin]
  exact starts_p (q := fun μ' => μ' = mst μ a) ha rfl 5 0 (by omega)
theorem c_X10_begins (hd : 0 < d) : Ctr l D d yX10_begins cX10_begins 1 none [.ref (D.2.2 10 0)] μ (pV (fun μ' => μ' = mst μ 0)) := by
  refine en_X10_begins (fun Γ => bl_X10_begins_0 (by decide) ⟨0, _, hd, c_X10_starts (a := 0) (by decide), ?_⟩)
  rintro _ rfl
  rfl
end MC
