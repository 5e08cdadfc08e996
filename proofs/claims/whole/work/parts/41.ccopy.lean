/-! the class: people and worlds copied, begun -/
/-- world w is laid anew: nothing else changes -/
def lyFr (w : Nat) (μ μ' : gMem) : Prop := (∀ k j, ¬ ((k = 4 ∨ k = 331) ∧ 5 * w ≤ j ∧ j < 5 * w + 5) → ¬ (k = 8 ∧ j = w) → μ'.1 k j = μ.1 k j) ∧ μ'.2.2 = μ.2.2 ∧ (∀ k j, ¬ (k = 8 ∧ j = w) → μ'.2.1 k j = μ.2.1 k j)
theorem lyFr.rf {w : Nat} {μ : gMem} : lyFr w μ μ := ⟨fun _ _ _ _ => rfl, rfl, fun _ _ _ => rfl⟩
theorem lyFr.tr {w : Nat} {μ μ1 μ2 : gMem} (h : lyFr w μ μ1) (h2 : lyFr w μ1 μ2) : lyFr w μ μ2 := ⟨fun k j a b => (h2.1 k j a b).trans (h.1 k j a b), h2.2.1.trans h.2.1, fun k j a => (h2.2.2 k j a).trans (h.2.2 k j a)⟩
theorem gsL_I {μ : gMem} {k i j : Nat} {v : Int64} : (gsL μ k i j v).1 = μ.1 := rfl
theorem eleven {P : Nat → Prop} (h0 : P 0) (h1 : P 1) (h2 : P 2) (h3 : P 3) (h4 : P 4) (h5 : P 5) (h6 : P 6) (h7 : P 7) (h8 : P 8) (h9 : P 9) (h10 : P 10) (j : Nat) (hj : j ≤ 10) : P j := by
  rcases (by omega : j = 0 ∨ j = 1 ∨ j = 2 ∨ j = 3 ∨ j = 4 ∨ j = 5 ∨ j = 6 ∨ j = 7 ∨ j = 8 ∨ j = 9 ∨ j = 10) with rfl | rfl | rfl | rfl | rfl | rfl | rfl | rfl | rfl | rfl | rfl <;> assumption
section CC
variable {l : Launch} {D : gD} {d : Nat} {μ : gMem}
theorem gcpy_off {μ : gMem} {ks is us kd id ud n k i : Nat} (h : ¬ (k = kd ∧ i = id)) : (gcpy μ ks is us kd id ud n).1 k i = μ.1 k i := by
  funext j
  simp only [gcpy]
  rw [if_neg (fun z => h ⟨z.1, z.2.1⟩)]
theorem gcpy_row {μ : gMem} {ks is us kd id n : Nat} : (gcpy μ ks is us kd id 0 n).1 kd id = fun j => if j < n then μ.1 ks is (us + j) else μ.1 kd id j := by
  funext j
  simp only [gcpy]
  by_cases h : j < n
  · rw [if_pos ⟨by trivial, by trivial, by omega, by omega⟩, if_pos h, Nat.sub_zero]
  · rw [if_neg (by omega), if_neg h]
theorem gcpy_2 {μ : gMem} {ks is us kd id ud n : Nat} : (gcpy μ ks is us kd id ud n).2 = μ.2 := rfl
set_option maxHeartbeats 2000000 in
theorem c_X4_copyFrom {r0 r1 : Nat} (hd : 0 < d) (h0 : r0 < 15) (h1 : r1 < 15) (hne : ¬ r1 = r0) (hj : jk μ) (hb : μ.1 4 r1 10 = 0 ∨ μ.1 4 r1 10 = 1) :
    Ctr l D d yX4_copyFrom cX4_copyFrom 2 none [.ref (D.2.2 4 r0), .ref (D.2.2 4 r1)] μ (pV (fun μ' => (∀ k j, ¬ ((k = 4 ∨ k = 331) ∧ j = r0) → μ'.1 k j = μ.1 k j) ∧ μ'.1 4 r0 = μ.1 4 r1 ∧ μ'.1 331 r0 = μ.1 331 r1 ∧ μ'.2 = μ.2)) := by
  have off : ∀ (μ : gMem) (j : Nat) (v : Int32), (gsI μ 4 r0 j v).1 4 r1 = μ.1 4 r1 := fun μ j v => gsI_off (by omega)
  refine en_X4_copyFrom (fun Γ => bl_X4_copyFrom_0 h0 h1 ?_)
  rintro μ1 e1 μ2 e2 μ3 e3 μ4 e4 μ5 e5 μ6 e6 μ7 e7 μ8 e8 μ9 e9 μ10 e10
  have o1 : μ1.1 4 r1 = μ.1 4 r1 := by rw [e1, off]
  have o2 : μ2.1 4 r1 = μ.1 4 r1 := by rw [e2, off, o1]
  have o3 : μ3.1 4 r1 = μ.1 4 r1 := by rw [e3, off, o2]
  have o4 : μ4.1 4 r1 = μ.1 4 r1 := by rw [e4, off, o3]
  have o5 : μ5.1 4 r1 = μ.1 4 r1 := by rw [e5, off, o4]
  have o6 : μ6.1 4 r1 = μ.1 4 r1 := by rw [e6, off, o5]
  have o7 : μ7.1 4 r1 = μ.1 4 r1 := by rw [e7, off, o6]
  have o8 : μ8.1 4 r1 = μ.1 4 r1 := by rw [e8, off, o7]
  have o9 : μ9.1 4 r1 = μ.1 4 r1 := by rw [e9, off, o8]
  have o10 : μ10.1 4 r1 = μ.1 4 r1 := by rw [e10, off, o9]
  rw [o1] at e2; rw [o2] at e3; rw [o3] at e4; rw [o4] at e5; rw [o5] at e6; rw [o6] at e7; rw [o7] at e8; rw [o8] at e9; rw [o9] at e10
  rw [o10]
  refine ⟨hb, ?_⟩
  rintro μ11 e11
  refine ⟨hd, 0, by omega, rfl, 0, by omega, rfl, ?_⟩
  rintro μ12 e12
  have f11 : ∀ k j, ¬ (k = 4 ∧ j = r0) → μ11.1 k j = μ.1 k j := by
    intro k j h
    rw [e11, gsI_off h, e10, gsI_off h, e9, gsI_off h, e8, gsI_off h, e7, gsI_off h, e6, gsI_off h, e5, gsI_off h, e4, gsI_off h, e3, gsI_off h, e2, gsI_off h, e1, gsI_off h]
  refine ⟨fun k j h => ?_, ?_, ?_, ?_⟩
  · rw [e12, gcpy_off (by omega)]
    exact f11 k j (by omega)
  · rw [e12, gcpy_off (by omega), e11, gsI_row, e10, gsI_row, e9, gsI_row, e8, gsI_row, e7, gsI_row, e6, gsI_row, e5, gsI_row, e4, gsI_row, e3, gsI_row, e2, gsI_row, e1, gsI_row]
    funext j
    by_cases hj9 : j ≤ 10
    · rcases (by omega : j = 0 ∨ j = 1 ∨ j = 2 ∨ j = 3 ∨ j = 4 ∨ j = 5 ∨ j = 6 ∨ j = 7 ∨ j = 8 ∨ j = 9 ∨ j = 10) with rfl | rfl | rfl | rfl | rfl | rfl | rfl | rfl | rfl | rfl | rfl <;> rfl
    · simp only [if_neg (show ¬ j = 0 by omega), if_neg (show ¬ j = 1 by omega), if_neg (show ¬ j = 2 by omega), if_neg (show ¬ j = 3 by omega), if_neg (show ¬ j = 4 by omega), if_neg (show ¬ j = 5 by omega), if_neg (show ¬ j = 6 by omega), if_neg (show ¬ j = 7 by omega), if_neg (show ¬ j = 8 by omega), if_neg (show ¬ j = 9 by omega), if_neg (show ¬ j = 10 by omega)]
      rw [hj.1 r0 j (by omega), hj.1 r1 j (by omega)]
  · rw [e12, gcpy_row, f11 331 r1 (by omega), f11 331 r0 (by omega)]
    funext j
    by_cases h6 : j < 6
    · simp only [if_pos h6, Nat.zero_add]
    · simp only [if_neg h6]
      rw [hj.2 r0 j (by omega), hj.2 r1 j (by omega)]
  · rw [e12, gcpy_2, e11, e10, e9, e8, e7, e6, e5, e4, e3, e2, e1]
    rfl
/-- a person as told -/
def psn (g b : Int32) : Nat → Int32 := fun j => if j = 0 then g else if j = 1 then b else if j = 10 then 1 else 0
set_option maxHeartbeats 2000000 in
theorem c_X4_start {r0 t p : Nat} (hd : 0 < d) (h0 : r0 < 15) (ht : t < 2) (hp : p < 5) (hj : jk μ) :
    Ctr l D d yX4_start cX4_start 3 none [.ref (D.2.2 4 r0), .ref (D.2.2 7 t), .int (nI p)] μ (pV (fun μ' => (∀ k j, ¬ ((k = 4 ∨ k = 331) ∧ j = r0) → μ'.1 k j = μ.1 k j) ∧ μ'.1 4 r0 = psn (μ.1 514 t p) (μ.1 515 t p) ∧ (μ'.1 331 r0 = fun j => if j < 6 then μ.1 523 t (6 * p + j) else 0) ∧ μ'.2 = μ.2)) := by
  refine en_X4_start (fun Γ => bl_X4_start_0 h0 ht ⟨p, hp, rfl, ?_⟩)
  rintro μ1 e1
  refine ⟨p, hp, rfl, ?_⟩
  rintro μ2 e2 μ3 e3 μ4 e4 μ5 e5 μ6 e6 μ7 e7 μ8 e8 μ9 e9 μ10 e10 μ11 e11
  have o1 : μ1.1 515 t = μ.1 515 t := by rw [e1, gsI_off (by omega)]
  rw [o1] at e2
  refine ⟨hd, 6 * p, by omega, ?_, 0, by omega, rfl, ?_⟩
  · have e6' : (6 : Int32) = nI 6 := rfl
    rw [e6', pk_mul, Nat.mul_comm]
  rintro μ12 e12
  have f11 : ∀ k j, ¬ (k = 4 ∧ j = r0) → μ11.1 k j = μ.1 k j := by
    intro k j h
    rw [e11, gsI_off h, e10, gsI_off h, e9, gsI_off h, e8, gsI_off h, e7, gsI_off h, e6, gsI_off h, e5, gsI_off h, e4, gsI_off h, e3, gsI_off h, e2, gsI_off h, e1, gsI_off h]
  refine ⟨fun k j h => ?_, ?_, ?_, ?_⟩
  · rw [e12, gcpy_off (by omega)]
    exact f11 k j (by omega)
  · rw [e12, gcpy_off (by omega), e11, gsI_row, e10, gsI_row, e9, gsI_row, e8, gsI_row, e7, gsI_row, e6, gsI_row, e5, gsI_row, e4, gsI_row, e3, gsI_row, e2, gsI_row, e1, gsI_row]
    funext j
    by_cases hj9 : j ≤ 10
    · rcases (by omega : j = 0 ∨ j = 1 ∨ j = 2 ∨ j = 3 ∨ j = 4 ∨ j = 5 ∨ j = 6 ∨ j = 7 ∨ j = 8 ∨ j = 9 ∨ j = 10) with rfl | rfl | rfl | rfl | rfl | rfl | rfl | rfl | rfl | rfl | rfl <;> rfl
    · simp only [if_neg (show ¬ j = 0 by omega), if_neg (show ¬ j = 1 by omega), if_neg (show ¬ j = 2 by omega), if_neg (show ¬ j = 3 by omega), if_neg (show ¬ j = 4 by omega), if_neg (show ¬ j = 5 by omega), if_neg (show ¬ j = 6 by omega), if_neg (show ¬ j = 7 by omega), if_neg (show ¬ j = 8 by omega), if_neg (show ¬ j = 9 by omega), if_neg (show ¬ j = 10 by omega), psn]
      exact hj.1 r0 j (by omega)
  · rw [e12, gcpy_row, f11 523 t (by omega), f11 331 r0 (by omega)]
    funext j
    by_cases h6 : j < 6
    · simp only [if_pos h6]
    · simp only [if_neg h6]
      exact hj.2 r0 j (by omega)
  · rw [e12, gcpy_2, e11, e10, e9, e8, e7, e6, e5, e4, e3, e2, e1]
    rfl
theorem c_X8_setPlain {w : Nat} (hw : w < 3) : Ctr l D d yX8_setPlain cX8_setPlain 1 none [.ref (D.2.2 8 w)] μ (pV (fun μ' => (∀ k j, ¬ (k = 8 ∧ j = w) → μ'.1 k j = μ.1 k j) ∧ (∀ j, ¬ (4 ≤ j ∧ j ≤ 7) → μ'.1 8 w j = μ.1 8 w j) ∧ μ'.1 8 w 4 = -1 ∧ μ'.1 8 w 5 = -1 ∧ μ'.1 8 w 6 = -1 ∧ μ'.1 8 w 7 = 0 ∧ μ'.2 = μ.2)) := by
  refine en_X8_setPlain (fun Γ => bl_X8_setPlain_0 hw ?_)
  rintro μ1 e1 μ2 e2 μ3 e3 μ4 e4
  have er : μ4.1 8 w = fun j => if j = 7 then 0 else if j = 6 then -1 else if j = 5 then -1 else if j = 4 then -1 else μ.1 8 w j := by
    rw [e4, gsI_row, e3, gsI_row, e2, gsI_row, e1, gsI_row]
  refine ⟨fun k j h => by rw [e4, gsI_off h, e3, gsI_off h, e2, gsI_off h, e1, gsI_off h], fun j h => ?_, by rw [er]; rfl, by rw [er]; rfl, by rw [er]; rfl, by rw [er]; rfl, by rw [e4, e3, e2, e1]; rfl⟩
  rw [er]
  simp only [if_neg (show ¬ j = 7 by omega), if_neg (show ¬ j = 6 by omega), if_neg (show ¬ j = 5 by omega), if_neg (show ¬ j = 4 by omega)]
/-- world w0 is as world w1, and plain -/
def wCp (w0 w1 : Nat) (μ μ' : gMem) : Prop := lyFr w0 μ μ' ∧ (∀ k, k < 5 → μ'.1 4 (5 * w0 + k) = μ.1 4 (5 * w1 + k) ∧ μ'.1 331 (5 * w0 + k) = μ.1 331 (5 * w1 + k)) ∧ (μ'.1 8 w0 1 = μ.1 8 w1 1 ∧ μ'.1 8 w0 2 = μ.1 8 w1 2 ∧ μ'.2.1 8 w0 3 = μ.2.1 8 w1 3) ∧ (μ'.1 8 w0 4 = -1 ∧ μ'.1 8 w0 5 = -1 ∧ μ'.1 8 w0 6 = -1 ∧ μ'.1 8 w0 7 = 0) ∧ jk μ'
theorem copyFrom_loop {Γ : gC} {q : gMem → Prop} {w0 w1 : Nat} {μ0 : gMem} (hd : 1 < d) (h0 : w0 < 3) (h1 : w1 < 3) (hne : ¬ w1 = w0) (hj0 : jk μ0) (hb : ∀ k, k < 5 → μ0.1 4 (5 * w1 + k) 10 = 0 ∨ μ0.1 4 (5 * w1 + k) 10 = 1) (hq : ∀ μ', wCp w0 w1 μ0 μ' → q μ') :
    ∀ (c j : Nat) (μ : gMem), j + c = 5 → lyFr w0 μ0 μ → μ.2 = μ0.2 → jk μ → (∀ k, k < j → μ.1 4 (5 * w0 + k) = μ0.1 4 (5 * w1 + k) ∧ μ.1 331 (5 * w0 + k) = μ0.1 331 (5 * w1 + k)) → pt_X8_copyFrom_1 l D d q Γ w0 w1 (nI j) μ := by
  have e5 : (5 : Int32) = nI 5 := rfl
  intro c
  induction c with
  | zero =>
    intro j μ hj hF h2 hjk hr
    obtain rfl : j = 5 := by omega
    refine bl_X8_copyFrom_1 h0 h1 ⟨fun _ => ?_, fun h => ?_⟩
    · rintro μ1 e1 μ2 e2 μ3 e3
      refine ⟨0, _, by omega, c_X8_setPlain h0, ?_⟩
      rintro μ4 ⟨a1, a2, a4, a5, a6, a7, a8⟩
      have g8 : μ.1 8 w1 = μ0.1 8 w1 := hF.1 8 w1 (by omega) (by omega)
      have r3 : μ3.1 8 w0 = fun j => if j = 2 then μ0.1 8 w1 2 else if j = 1 then μ0.1 8 w1 1 else μ.1 8 w0 j := by
        rw [e3, gsL_I, e2, gsI_row, e1, gsI_row, gsI_off (by omega), g8]
      have l3 : μ3.2.1 8 w0 3 = μ0.2.1 8 w1 3 := by
        rw [e3]
        show u3 μ2.2.1 8 w0 3 _ 8 w0 3 = _
        rw [u3, if_pos ⟨rfl, rfl, rfl⟩, e2, e1]
        show μ.2.1 8 w1 3 = _
        rw [h2]
      have f3 : ∀ k j, ¬ (k = 8 ∧ j = w0) → μ4.1 k j = μ.1 k j := by
        intro k j h
        rw [a1 k j h, e3, gsL_I, e2, gsI_off h, e1, gsI_off h]
      refine hq μ4 ⟨⟨fun k j a b => ?_, ?_, fun k j a => ?_⟩, fun k hk => ?_, ⟨?_, ?_, ?_⟩, ⟨a4, a5, a6, a7⟩, hjk.of (fun i => f3 4 i (by omega)) (fun i => f3 331 i (by omega))⟩
      · rw [f3 k j b]; exact hF.1 k j a b
      · rw [a8, e3, e2, e1]; exact hF.2.1
      · rw [a8, e3, e2, e1]
        show (fun j' => u3 μ.2.1 8 w0 3 _ k j j') = _
        funext j'
        rw [u3, if_neg (fun z => a ⟨z.1, z.2.1⟩)]
        rw [h2]
      · rw [f3 4 _ (by omega), f3 331 _ (by omega)]; exact hr k hk
      · rw [a2 1 (by omega), r3]; rfl
      · rw [a2 2 (by omega), r3]; rfl
      · rw [a8]; exact l3
    · rw [e5] at h
      exact absurd (nI_le (Nat.le_refl _) (by omega)) h
  | succ c ih =>
    intro j μ hj hF h2 hjk hr
    refine bl_X8_copyFrom_1 h0 h1 ⟨fun h => ?_, fun _ => ⟨j, by omega, rfl, j, by omega, rfl, 1, _, hd, c_X4_copyFrom (by omega) (by omega) (by omega) (by omega) hjk ?_, ?_⟩⟩
    · rw [e5] at h
      exact absurd h (nI_ge (by omega) (by omega))
    · rw [hF.1 4 _ (by omega) (by omega)]; exact hb j (by omega)
    · rintro μ1 ⟨a1, a2, a3, a4⟩ _ rfl
      rw [nI_1]
      have hsrc : ∀ k, k < 5 → μ.1 4 (5 * w1 + k) = μ0.1 4 (5 * w1 + k) ∧ μ.1 331 (5 * w1 + k) = μ0.1 331 (5 * w1 + k) := fun k hk => ⟨hF.1 _ _ (by omega) (by omega), hF.1 _ _ (by omega) (by omega)⟩
      refine ih (j + 1) μ1 (by omega) (hF.tr ⟨fun k j' a b => a1 k j' (by omega), by rw [a4], fun k j' a => by rw [a4]⟩) (a4.trans h2) ⟨fun i j' h => ?_, fun i j' h => ?_⟩ (fun k hk => ?_)
      · by_cases hi : i = 5 * w0 + j
        · rw [hi, a2]; exact hjk.1 _ j' h
        · rw [a1 4 i (by omega)]; exact hjk.1 _ j' h
      · by_cases hi : i = 5 * w0 + j
        · rw [hi, a3]; exact hjk.2 _ j' h
        · rw [a1 331 i (by omega)]; exact hjk.2 _ j' h
      · by_cases hk2 : k = j
        · subst hk2
          rw [a2, a3]
          exact hsrc k (by omega)
        · rw [a1 4 _ (by omega), a1 331 _ (by omega)]
          exact hr k (by omega)
theorem c_X8_copyFrom {w0 w1 : Nat} (hd : 1 < d) (h0 : w0 < 3) (h1 : w1 < 3) (hne : ¬ w1 = w0) (hj0 : jk μ) (hb : ∀ k, k < 5 → μ.1 4 (5 * w1 + k) 10 = 0 ∨ μ.1 4 (5 * w1 + k) 10 = 1) :
    Ctr l D d yX8_copyFrom cX8_copyFrom 3 none [.ref (D.2.2 8 w0), .ref (D.2.2 8 w1)] μ (pV (wCp w0 w1 μ)) := by
  refine en_X8_copyFrom (fun Γ => bl_X8_copyFrom_0 h0 h1 ?_)
  rintro _ rfl
  exact copyFrom_loop hd h0 h1 hne hj0 hb (fun _ h => h) 5 0 μ (by omega) lyFr.rf rfl hj0 (fun k hk => by omega)
/-- world w begins as told in place t -/
def wBg (w t : Nat) (μ μ' : gMem) : Prop := lyFr w μ μ' ∧ (∀ k, k < 5 → μ'.1 4 (5 * w + k) = psn (μ.1 514 t k) (μ.1 515 t k) ∧ μ'.1 331 (5 * w + k) = fun j => if j < 6 then μ.1 523 t (6 * k + j) else 0) ∧ (μ'.1 8 w 1 = 0 ∧ μ'.1 8 w 2 = 0 ∧ μ'.2.1 8 w 3 = (μ.1 7 t 17).toInt64) ∧ (μ'.1 8 w 4 = -1 ∧ μ'.1 8 w 5 = -1 ∧ μ'.1 8 w 6 = -1 ∧ μ'.1 8 w 7 = 0) ∧ jk μ'
theorem start_loop {Γ : gC} {q : gMem → Prop} {w t : Nat} {μ0 : gMem} (hd : 1 < d) (h0 : w < 3) (h1 : t < 2) (hj0 : jk μ0) (hq : ∀ μ', wBg w t μ0 μ' → q μ') :
    ∀ (c j : Nat) (μ : gMem), j + c = 5 → lyFr w μ0 μ → μ.2 = μ0.2 → jk μ → (∀ k, k < j → μ.1 4 (5 * w + k) = psn (μ0.1 514 t k) (μ0.1 515 t k) ∧ μ.1 331 (5 * w + k) = fun j => if j < 6 then μ0.1 523 t (6 * k + j) else 0) → pt_X8_start_1 l D d q Γ w t (nI j) μ := by
  have e5 : (5 : Int32) = nI 5 := rfl
  intro c
  induction c with
  | zero =>
    intro j μ hj hF h2 hjk hr
    obtain rfl : j = 5 := by omega
    refine bl_X8_start_1 h0 h1 ⟨fun _ => ?_, fun h => ?_⟩
    · rintro μ1 e1 μ2 e2 μ3 e3
      refine ⟨0, _, by omega, c_X8_setPlain h0, ?_⟩
      rintro μ4 ⟨a1, a2, a4, a5, a6, a7, a8⟩
      have g7 : μ.1 7 t = μ0.1 7 t := hF.1 7 t (by omega) (by omega)
      have r3 : μ3.1 8 w = fun j => if j = 2 then 0 else if j = 1 then 0 else μ.1 8 w j := by
        rw [e3, gsL_I, e2, gsI_row, e1, gsI_row]
      have l3 : μ3.2.1 8 w 3 = (μ0.1 7 t 17).toInt64 := by
        rw [e3]
        show u3 μ2.2.1 8 w 3 _ 8 w 3 = _
        rw [u3, if_pos ⟨rfl, rfl, rfl⟩, e2, gsI_off (by omega), e1, gsI_off (by omega), g7]
      have f3 : ∀ k j, ¬ (k = 8 ∧ j = w) → μ4.1 k j = μ.1 k j := by
        intro k j h
        rw [a1 k j h, e3, gsL_I, e2, gsI_off h, e1, gsI_off h]
      refine hq μ4 ⟨⟨fun k j a b => ?_, ?_, fun k j a => ?_⟩, fun k hk => ?_, ⟨?_, ?_, ?_⟩, ⟨a4, a5, a6, a7⟩, hjk.of (fun i => f3 4 i (by omega)) (fun i => f3 331 i (by omega))⟩
      · rw [f3 k j b]; exact hF.1 k j a b
      · rw [a8, e3, e2, e1]; exact hF.2.1
      · rw [a8, e3, e2, e1]
        show (fun j' => u3 μ.2.1 8 w 3 _ k j j') = _
        funext j'
        rw [u3, if_neg (fun z => a ⟨z.1, z.2.1⟩)]
        rw [h2]
      · rw [f3 4 _ (by omega), f3 331 _ (by omega)]; exact hr k hk
      · rw [a2 1 (by omega), r3]; rfl
      · rw [a2 2 (by omega), r3]; rfl
      · rw [a8]; exact l3
    · rw [e5] at h
      exact absurd (nI_le (Nat.le_refl _) (by omega)) h
  | succ c ih =>
    intro j μ hj hF h2 hjk hr
    refine bl_X8_start_1 h0 h1 ⟨fun h => ?_, fun _ => ⟨j, by omega, rfl, 1, _, hd, c_X4_start (by omega) (by omega) h1 (by omega) hjk, ?_⟩⟩
    · rw [e5] at h
      exact absurd h (nI_ge (by omega) (by omega))
    · rintro μ1 ⟨a1, a2, a3, a4⟩ _ rfl
      rw [nI_1]
      rw [hF.1 514 t (by omega) (by omega), hF.1 515 t (by omega) (by omega)] at a2
      rw [hF.1 523 t (by omega) (by omega)] at a3
      refine ih (j + 1) μ1 (by omega) (hF.tr ⟨fun k j' a b => a1 k j' (by omega), by rw [a4], fun k j' a => by rw [a4]⟩) (a4.trans h2) ⟨fun i j' h => ?_, fun i j' h => ?_⟩ (fun k hk => ?_)
      · by_cases hi : i = 5 * w + j
        · rw [hi, a2, psn, if_neg (by omega), if_neg (by omega), if_neg (by omega)]
        · rw [a1 4 i (by omega)]; exact hjk.1 _ j' h
      · by_cases hi : i = 5 * w + j
        · rw [hi, a3]
          show (if j' < 6 then _ else _) = _
          rw [if_neg (by omega)]
        · rw [a1 331 i (by omega)]; exact hjk.2 _ j' h
      · by_cases hk2 : k = j
        · subst hk2
          rw [a2, a3]
          exact ⟨rfl, rfl⟩
        · rw [a1 4 _ (by omega), a1 331 _ (by omega)]
          exact hr k (by omega)
theorem c_X8_start {w t : Nat} (hd : 1 < d) (h0 : w < 3) (h1 : t < 2) (hj0 : jk μ) :
    Ctr l D d yX8_start cX8_start 3 none [.ref (D.2.2 8 w), .ref (D.2.2 7 t)] μ (pV (wBg w t μ)) := by
  refine en_X8_start (fun Γ => bl_X8_start_0 h0 h1 ?_)
  rintro _ rfl
  exact start_loop hd h0 h1 hj0 (fun _ h => h) 5 0 μ (by omega) lyFr.rf rfl hj0 (fun k hk => by omega)
end CC
