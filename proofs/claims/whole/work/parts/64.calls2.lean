/-! undo, keep, back -/
def undoV (σ : sV) : Int32 := if σ.2.2.2.2.1.1 = 0 then -1 else nI (σ.2.2.2.2.1.1 - 1)
def undoS (σ : sV) : sV := if σ.2.2.2.2.1.1 = 0 then σ else (σ.1, σ.2.2.2.2.1.2.1 (σ.2.2.2.2.1.1 - 1), σ.2.2.1, σ.2.2.2.1, (σ.2.2.2.2.1.1 - 1, σ.2.2.2.2.1.2), σ.2.2.2.2.2)
def keepS (σ : sV) : sV := (σ.1, σ.2.1, σ.2.2.1, some σ.2.1, σ.2.2.2.2)
def backV (σ : sV) : Int32 := match σ.2.2.2.1 with | none => -1 | some V => nI V.2.2.1
def backS (σ : sV) : sV := match σ.2.2.2.1 with | none => σ | some V => (σ.1, V, σ.2.2.1, σ.2.2.2.1, (0, (fun _ => V), σ.2.2.2.2.1.2.2), σ.2.2.2.2.2)
theorem undoS_ok {σ : sV} (h : sOkS σ) : sOkS (undoS σ) := by
  unfold undoS
  split
  · exact h
  · rename_i hm
    obtain ⟨h1, h2, h3, h4, ⟨u1, u2, u3⟩, h6⟩ := h
    exact ⟨h1, (u3 _ (by omega)).1, h3, h4, ⟨by show σ.2.2.2.2.1.1 - 1 ≤ 20; omega, rfl, fun k hk => u3 k (by have : k < σ.2.2.2.2.1.1 - 1 := hk; omega)⟩, h6⟩
theorem keepS_ok {σ : sV} (h : sOkS σ) : sOkS (keepS σ) := ⟨h.1, h.2.1, h.2.2.1, fun V hV => by cases hV; exact h.2.1, h.2.2.2.2⟩
theorem backS_ok {σ : sV} (h : sOkS σ) : sOkS (backS σ) := by
  unfold backS
  cases hI : σ.2.2.2.1 with
  | none => exact h
  | some V =>
    have hV := h.2.2.2.1 V hI
    exact ⟨h.1, hV, h.2.2.1, fun W hW => by cases hW; exact hV, ⟨Nat.zero_le _, rfl, fun k hk => absurd hk (Nat.not_lt_zero k)⟩, h.2.2.2.2.2⟩
/-- the class's now is changed, and how many changes there are -/
theorem cSt_now {μ μ2 : gMem} {t m : Nat} {σ : sV} {Vn : wV} {U : Nat → wV} (h : cSt μ t σ) (hm : m ≤ σ.2.2.2.2.1.1) (hG : ∀ k j, ¬ (k = 0 ∧ j = 0) → ¬ ((k = 4 ∨ k = 331) ∧ j < 5) → ¬ (k = 8 ∧ j = 0) → μ2.1 k j = μ.1 k j) (h8 : μ2.1 8 0 5 = -1 ∧ μ2.1 8 0 6 = -1 ∧ μ2.1 8 0 7 = 0) (h2 : μ2.2.2 = μ.2.2) (hl : μ2.2.1 8 1 = μ.2.1 8 1) (hj : jk μ2) (hW : hC μ2 0 Vn) (h0 : μ2.1 0 0 4 = nI m) : cSt μ2 t (σ.1, Vn, σ.2.2.1, σ.2.2.2.1, (m, U, σ.2.2.2.2.1.2.2), σ.2.2.2.2.2) := by
  obtain ⟨a1, a2, -, a3, a4, a5, a6, a7, a8⟩ := h
  refine ⟨by rw [h2]; exact a1, h8, hj, a3.of (fun k hk => hG k t (by omega) (by omega) (by omega)), hW, a5.of (fun k hk => hG k 0 (by omega) (by omega) (by omega)), a6.of (by rw [hG 9 0 (by omega) (by omega) (by omega)]) (fun V hw => hw.of (fun k _ => hG 4 _ (by omega) (by omega) (by omega)) (fun k _ => hG 331 _ (by omega) (by omega) (by omega)) ⟨by rw [hG 8 1 (by omega) (by omega) (by omega)], by rw [hG 8 1 (by omega) (by omega) (by omega)]⟩ (by rw [hl])), ⟨h0, fun k hk => ?_⟩, a8.of (hG 6 0 (by omega) (by omega) (by omega)) (hG 448 0 (by omega) (by omega) (by omega)) (hG 5 0 (by omega) (by omega) (by omega)) (hG 449 0 (by omega) (by omega) (by omega))⟩
  have hk : k < m := hk
  rw [hG 64 0 (by omega) (by omega) (by omega), hG 65 0 (by omega) (by omega) (by omega), hG 66 0 (by omega) (by omega) (by omega), hG 67 0 (by omega) (by omega) (by omega)]
  exact a7.2 k (by omega)
section M3
variable {l : Launch} {D : gD} {d : Nat} {μ : gMem} {t : Nat} {σ : sV}
theorem c_X9_undo (hd : 1 ≤ d) (h : cSt μ t σ) (hO : sOkS σ) : Ctr l D d yX9_undo cX9_undo 1 (some .int) [.ref (D.2.2 9 0)] μ (pI (fun v μ' => v = undoV σ ∧ cSt μ' t (undoS σ) ∧ mKp μ μ')) := by
  have hun := h.2.2.2.2.2.2.2.1
  obtain ⟨u1, u2, u3⟩ := hO.2.2.2.2.1
  have h5 := hO.1.1.1
  have h6 := hO.1.2.1
  have ez : μ.1 0 0 4 = 0 ↔ σ.2.2.2.2.1.1 = 0 := by rw [hun.1]; exact nI_z (by omega)
  refine en_X9_undo (fun Γ => bl_X9_undo_0 (by decide) ?_)
  rw [ez]
  refine ⟨fun z => ?_, fun z => ⟨by rw [undoV, if_pos z], by rw [undoS, if_pos z]; exact h, mKp.rf⟩⟩
  obtain ⟨k, hk⟩ : ∃ k, σ.2.2.2.2.1.1 = k + 1 := ⟨σ.2.2.2.2.1.1 - 1, by omega⟩
  have ek : σ.2.2.2.2.1.1 - 1 = k := by omega
  have hch := (u3 k (by omega)).2
  rw [← hk, u2] at hch
  have hcell := hun.2 k (by omega)
  have hc1 : μ.1 64 0 k = (σ.2.2.2.2.1.2.2 k).1 := congrArg (fun q => q.1) hcell
  have hc2 : μ.1 65 0 k = (σ.2.2.2.2.1.2.2 k).2.1 := congrArg (fun q => q.2.1) hcell
  have hc3 : μ.1 66 0 k = (σ.2.2.2.2.1.2.2 k).2.2.1 := congrArg (fun q => q.2.2.1) hcell
  have hc4 : μ.1 67 0 k = (σ.2.2.2.2.1.2.2 k).2.2.2 := congrArg (fun q => q.2.2.2) hcell
  obtain ⟨hrest, p, hp, ep, hkind⟩ := hch
  have hW := h.2.2.2.2.1
  have val : undoV σ = nI k := by rw [undoV, if_neg z, ek]
  have st : undoS σ = (σ.1, σ.2.2.2.2.1.2.1 k, σ.2.2.1, σ.2.2.2.1, (k, σ.2.2.2.2.1.2.1, σ.2.2.2.2.1.2.2), σ.2.2.2.2.2) := by rw [undoS, if_neg z, ek]
  rw [val, st]
  refine ⟨0, fun μ' => cSt μ' t (σ.1, σ.2.2.2.2.1.2.1 k, σ.2.2.1, σ.2.2.2.1, (k, σ.2.2.2.2.1.2.1, σ.2.2.2.2.1.2.2), σ.2.2.2.2.2) ∧ mKp μ μ' ∧ μ'.1 0 0 4 = nI k, by omega, en_X0_takeBack (fun Γ => bl_X0_takeBack_0 (by decide) (by decide) ?_), fun μ' hh => ⟨hh.2.2, hh.1, hh.2.1⟩⟩
  rw [ez]
  refine ⟨fun _ => ?_, fun w => absurd w z⟩
  rw [hun.1, hk, nI_pred]
  rintro μ1 e1
  have g : ∀ a b, ¬ (a = 0 ∧ b = 0) → μ1.1 a b = μ.1 a b := fun a b hab => by rw [e1, gsI_off hab]
  have s1 : μ1.1 0 0 4 = nI k := by rw [e1, gsI_s]
  have h12 : μ1.2 = μ.2 := by rw [e1]; rfl
  -- a slot is set
  have setc : ∀ (j : Nat) (x : Int32), j ≤ 10 → (σ.2.2.2.2.1.2.1 k).1 = setS σ.2.1.1 p j x → (σ.2.2.2.2.1.2.1 k).2.1 = σ.2.1.2.1 → cSt (gsI μ1 4 (5 * 0 + p) j x) t (σ.1, σ.2.2.2.2.1.2.1 k, σ.2.2.1, σ.2.2.2.1, (k, σ.2.2.2.2.1.2.1, σ.2.2.2.2.1.2.2), σ.2.2.2.2.2) ∧ mKp μ (gsI μ1 4 (5 * 0 + p) j x) ∧ (gsI μ1 4 (5 * 0 + p) j x).1 0 0 4 = nI k := by
    intro j x hj e2 e3
    rw [Nat.mul_zero, Nat.zero_add]
    have o : ∀ a b, ¬ (a = 4 ∧ b = p) → (gsI μ1 4 p j x).1 a b = μ1.1 a b := fun a b hab => gsI_off hab
    refine ⟨cSt_now h (by omega) (fun a b c1 c2 _ => by rw [o a b (by omega)]; exact g a b c1) (by rw [o 8 0 (by omega), g 8 0 (by omega)]; exact h.2.1) (by show μ1.2.2 = _; rw [h12]) (by show μ1.2.1 8 1 = _; rw [h12]) ⟨fun i w hw => ?_, fun i w hw => ?_⟩ ⟨fun q hq => ?_, fun q hq => ?_, ?_, ?_, ?_⟩ (by rw [o 0 0 (by omega)]; exact s1), by rw [e1]; exact (mKp.rf.put (by omega)).put (by omega), by rw [o 0 0 (by omega)]; exact s1⟩
    · rw [gsI_at, if_neg (by omega), g 4 i (by omega)]; exact h.2.2.1.1 i w hw
    · rw [o 331 i (by omega), g 331 i (by omega)]; exact h.2.2.1.2 i w hw
    · have hq2 := hW.1 q hq
      rw [Nat.mul_zero, Nat.zero_add] at hq2 ⊢
      rw [e2]
      by_cases eq : q = p
      · subst eq
        rw [gsI_row, setS_m, g 4 q (by omega), hq2]
      · rw [gsI_off (by omega), setS_r eq, g 4 q (by omega)]; exact hq2
    · rw [e3, o 331 _ (by omega), g 331 _ (by omega)]; exact hW.2.1 q hq
    · rw [hrest, o 8 0 (by omega), g 8 0 (by omega)]; exact hW.2.2.1
    · rw [hrest, o 8 0 (by omega), g 8 0 (by omega)]; exact hW.2.2.2.1
    · show μ1.2.1 8 0 3 = _
      rw [hrest, h12]; exact hW.2.2.2.2
  rw [g 64 0 (by omega), g 65 0 (by omega), g 66 0 (by omega), g 67 0 (by omega)]
  refine ⟨k, by omega, s1, p, by omega, by rw [hc2]; exact ep, k, by omega, s1, ?_⟩
  rw [hc1]
  refine ⟨fun kd => ⟨k, by omega, s1, ?_⟩, fun kd => ⟨k, by omega, s1, ?_⟩, fun kd => ?_, fun kd => ⟨k, by omega, s1, ?_⟩⟩
  · obtain ⟨b01, e2, e3⟩ : ((σ.2.2.2.2.1.2.2 k).2.2.2 = 0 ∨ (σ.2.2.2.2.1.2.2 k).2.2.2 = 1) ∧ (σ.2.2.2.2.1.2.1 k).1 = setS σ.2.1.1 p 10 (σ.2.2.2.2.1.2.2 k).2.2.2 ∧ (σ.2.2.2.2.1.2.1 k).2.1 = σ.2.1.2.1 := by
      rcases hkind with w | w | w | w
      · exact w.2
      · exact absurd (kd.symm.trans w.1) (by decide)
      · exact absurd (kd.symm.trans w.1) (by decide)
      · exact absurd (kd.symm.trans w.1) (by decide)
    rw [hc4]
    have last : ∀ x : Int32, x = (σ.2.2.2.2.1.2.2 k).2.2.2 → pt_X0_takeBack_1 l D 0 (fun μ' => cSt μ' t (σ.1, σ.2.2.2.2.1.2.1 k, σ.2.2.1, σ.2.2.2.1, (k, σ.2.2.2.2.1.2.1, σ.2.2.2.2.1.2.2), σ.2.2.2.2.2) ∧ mKp μ μ' ∧ μ'.1 0 0 4 = nI k) Γ (5 * 0 + p) x μ1 := by
      intro x hx
      refine bl_X0_takeBack_1 (by omega) ⟨by rw [hx]; exact b01, ?_⟩
      rintro _ rfl
      rw [hx]
      exact setc 10 _ (by omega) e2 e3
    refine ⟨fun w => last 0 ?_, fun w => last 1 w.symm⟩
    rcases b01 with q | q
    · exact q.symm
    · exact absurd q w
  · obtain ⟨e2, e3⟩ : (σ.2.2.2.2.1.2.1 k).1 = setS σ.2.1.1 p 0 (σ.2.2.2.2.1.2.2 k).2.2.2 ∧ (σ.2.2.2.2.1.2.1 k).2.1 = σ.2.1.2.1 := by
      rcases hkind with w | w | w | w
      · exact absurd (kd.symm.trans w.1) (by decide)
      · exact w.2
      · exact absurd (kd.symm.trans w.1) (by decide)
      · exact absurd (kd.symm.trans w.1) (by decide)
    rw [hc4]
    rintro _ rfl
    exact setc 0 _ (by omega) e2 e3
  · obtain ⟨e2, j, hj, ej, e3⟩ : (σ.2.2.2.2.1.2.1 k).1 = σ.2.1.1 ∧ ∃ j, j < σ.1.2.1 ∧ (σ.2.2.2.2.1.2.2 k).2.2.1 = nI j ∧ (σ.2.2.2.2.1.2.1 k).2.1 = setS σ.2.1.2.1 p j (σ.2.2.2.2.1.2.2 k).2.2.2 := by
      rcases hkind with w | w | w | w
      · exact absurd (kd.symm.trans w.1) (by decide)
      · exact absurd (kd.symm.trans w.1) (by decide)
      · exact w.2
      · exact absurd (kd.symm.trans w.1) (by decide)
    refine ⟨k, by omega, s1, k, by omega, s1, j, by omega, by rw [hc3]; exact ej, ?_⟩
    rw [hc4, Nat.mul_zero, Nat.zero_add]
    rintro _ rfl
    generalize hx : (σ.2.2.2.2.1.2.2 k).2.2.2 = x at e3
    have o : ∀ a b, ¬ (a = 331 ∧ b = p) → (gsI μ1 331 p j x).1 a b = μ1.1 a b := fun a b hab => gsI_off hab
    refine ⟨cSt_now h (by omega) (fun a b c1 c2 _ => by rw [o a b (by omega)]; exact g a b c1) (by rw [o 8 0 (by omega), g 8 0 (by omega)]; exact h.2.1) (by show μ1.2.2 = _; rw [h12]) (by show μ1.2.1 8 1 = _; rw [h12]) ⟨fun i w hw => ?_, fun i w hw => ?_⟩ ⟨fun q hq => ?_, fun q hq => ?_, ?_, ?_, ?_⟩ (by rw [o 0 0 (by omega)]; exact s1), by rw [e1]; exact (mKp.rf.put (by omega)).put (by omega), by rw [o 0 0 (by omega)]; exact s1⟩
    · rw [o 4 i (by omega), g 4 i (by omega)]; exact h.2.2.1.1 i w hw
    · rw [gsI_at, if_neg (by omega), g 331 i (by omega)]; exact h.2.2.1.2 i w hw
    · rw [e2, o 4 _ (by omega), g 4 _ (by omega)]; exact hW.1 q hq
    · have hq2 := hW.2.1 q hq
      rw [Nat.mul_zero, Nat.zero_add] at hq2 ⊢
      rw [e3]
      by_cases eq : q = p
      · subst eq
        rw [gsI_row, setS_m, g 331 q (by omega), hq2]
      · rw [gsI_off (by omega), setS_r eq, g 331 q (by omega)]; exact hq2
    · rw [hrest, o 8 0 (by omega), g 8 0 (by omega)]; exact hW.2.2.1
    · rw [hrest, o 8 0 (by omega), g 8 0 (by omega)]; exact hW.2.2.2.1
    · show μ1.2.1 8 0 3 = _
      rw [hrest, h12]; exact hW.2.2.2.2
  · obtain ⟨e2, e3⟩ : (σ.2.2.2.2.1.2.1 k).1 = setS σ.2.1.1 p 9 (σ.2.2.2.2.1.2.2 k).2.2.2 ∧ (σ.2.2.2.2.1.2.1 k).2.1 = σ.2.1.2.1 := by
      rcases hkind with w | w | w | w
      · exact absurd w.1 kd.1
      · exact absurd w.1 kd.2.1
      · exact absurd w.1 kd.2.2
      · exact w.2
    rw [hc4]
    rintro _ rfl
    exact setc 9 _ (by omega) e2 e3
theorem c_X9_keep (hd : 3 ≤ d) (h : cSt μ t σ) (hO : sOkS σ) : Ctr l D d yX9_keep cX9_keep 1 (some .int) [.ref (D.2.2 9 0)] μ (pI (fun v μ' => v = nI σ.2.1.2.2.1 ∧ cSt μ' t (keepS σ) ∧ mKp μ μ')) := by
  have hW := h.2.2.2.2.1
  refine en_X9_keep (fun Γ => bl_X9_keep_0 (by decide) ⟨2, _, by omega, c_X8_copyFrom (w0 := 1) (w1 := 0) (by omega) (by decide) (by decide) (by decide) h.2.2.1 (fun k hk => by rw [hW.1 k hk]; exact hO.2.1.1.2.2.2 k hk), ?_⟩)
  rintro μ1 ⟨hF, hr, ⟨d1, d2, d3⟩, -, hj⟩ μ2 e2
  have g : ∀ a b, ¬ (a = 9 ∧ b = 0) → μ2.1 a b = μ1.1 a b := fun a b hab => by rw [e2, gsI_off hab]
  have o : ∀ a b, ¬ ((a = 4 ∨ a = 331) ∧ 5 ≤ b ∧ b < 10) → ¬ (a = 8 ∧ b = 1) → ¬ (a = 9 ∧ b = 0) → μ2.1 a b = μ.1 a b := fun a b c1 c2 c3 => by rw [g a b c3]; exact hF.1 a b (by omega) c2
  have h22 : μ2.2 = μ1.2 := by rw [e2]; rfl
  obtain ⟨a1, a2, -, a3, a4, a5, a6, a7, a8⟩ := h
  refine ⟨by rw [o 8 0 (by omega) (by omega) (by omega)]; exact hW.2.2.1, ⟨by rw [h22, hF.2.1]; exact a1, by rw [o 8 0 (by omega) (by omega) (by omega)]; exact a2, hj.of (fun i => g 4 i (by omega)) (fun i => g 331 i (by omega)), a3.of (fun k hk => o k t (by omega) (by omega) (by omega)), a4.of (fun k _ => o 4 _ (by omega) (by omega) (by omega)) (fun k _ => o 331 _ (by omega) (by omega) (by omega)) ⟨by rw [o 8 0 (by omega) (by omega) (by omega)], by rw [o 8 0 (by omega) (by omega) (by omega)]⟩ (by rw [h22, hF.2.2 8 0 (by omega)]), a5.of (fun k hk => o k 0 (by omega) (by omega) (by omega)), ⟨by rw [e2, gsI_s], ⟨fun k hk => ?_, fun k hk => ?_, ?_, ?_, ?_⟩⟩, a7.of (by rw [o 0 0 (by omega) (by omega) (by omega)]) (fun k hk => o k 0 (by omega) (by omega) (by omega)), a8.of (o 6 0 (by omega) (by omega) (by omega)) (o 448 0 (by omega) (by omega) (by omega)) (o 5 0 (by omega) (by omega) (by omega)) (o 449 0 (by omega) (by omega) (by omega))⟩, fun a b hab => o a b (by omega) (by omega) (by omega)⟩
  · rw [g 4 _ (by omega), (hr k hk).1]; exact hW.1 k hk
  · rw [g 331 _ (by omega), (hr k hk).2]; exact hW.2.1 k hk
  · rw [g 8 1 (by omega), d1]; exact hW.2.2.1
  · rw [g 8 1 (by omega), d2]; exact hW.2.2.2.1
  · rw [h22, d3]; exact hW.2.2.2.2
theorem c_X9_back (hd : 3 ≤ d) (h : cSt μ t σ) (hO : sOkS σ) : Ctr l D d yX9_back cX9_back 1 (some .int) [.ref (D.2.2 9 0)] μ (pI (fun v μ' => v = backV σ ∧ cSt μ' t (backS σ) ∧ mKp μ μ')) := by
  refine en_X9_back (fun Γ => bl_X9_back_0 (by decide) ?_)
  have hI := h.2.2.2.2.2.2.1
  unfold backV backS
  cases hI2 : σ.2.2.2.1 with
  | none =>
    rw [hI2] at hI
    have hI : μ.1 9 0 11 = 0 := hI
    rw [hI]
    exact ⟨fun z => absurd rfl z, fun _ => ⟨rfl, h, mKp.rf⟩⟩
  | some V =>
    rw [hI2] at hI
    obtain ⟨hI, hV⟩ : μ.1 9 0 11 = 1 ∧ hC μ 1 V := hI
    have hok := hO.2.2.2.1 V hI2
    rw [hI]
    refine ⟨fun _ => ⟨2, _, by omega, c_X8_copyFrom (w0 := 0) (w1 := 1) (by omega) (by decide) (by decide) (by decide) h.2.2.1 (fun k hk => by rw [hV.1 k hk]; exact hok.1.2.2.2 k hk), ?_⟩, fun z => absurd z (by decide)⟩
    rintro μ1 ⟨hF, hr, ⟨d1, d2, d3⟩, ⟨-, p5, p6, p7⟩, hj⟩ μ2 e2
    have g : ∀ a b, ¬ (a = 0 ∧ b = 0) → μ2.1 a b = μ1.1 a b := fun a b hab => by rw [e2, gsI_off hab]
    have h22 : μ2.2 = μ1.2 := by rw [e2]; rfl
    have hW : hC μ2 0 V := ⟨fun k hk => by rw [g 4 _ (by omega), (hr k hk).1]; exact hV.1 k hk, fun k hk => by rw [g 331 _ (by omega), (hr k hk).2]; exact hV.2.1 k hk, by rw [g 8 0 (by omega), d1]; exact hV.2.2.1, by rw [g 8 0 (by omega), d2]; exact hV.2.2.2.1, by rw [h22, d3]; exact hV.2.2.2.2⟩
    refine ⟨hW.2.2.1, ?_, fun a b hab => by rw [g a b (by omega)]; exact hF.1 a b (by omega) (by omega)⟩
    have := cSt_now (U := fun _ => V) (m := 0) h (by omega) (fun a b c1 c2 c3 => by rw [g a b c1]; exact hF.1 a b (by omega) (by omega)) (by rw [g 8 0 (by omega)]; exact ⟨p5, p6, p7⟩) (by rw [h22, hF.2.1]) (by rw [h22, hF.2.2 8 1 (by omega)]) (hj.of (fun i => g 4 i (by omega)) (fun i => g 331 i (by omega))) hW (by rw [e2, gsI_s]; rfl)
    rw [hI2] at this
    exact this
end M3
theorem mSt_now {μ μ2 : gMem} {m : Nat} {σ : sV} {Vn : wV} {U : Nat → wV} (h : mSt μ σ) (hG : ∀ k j, ¬ (737 ≤ k ∧ k ≤ 751 ∧ j = 0) → ¬ (k = 10 ∧ j = 0) → μ2.1 k j = μ.1 k j) (h10 : ∀ j, ¬ j = 50 → ¬ j = 0 → μ2.1 10 0 j = μ.1 10 0 j) (h2 : ∀ V, hM μ (eMen σ.1.1) 2 V → hM μ2 (eMen σ.1.1) 2 V) (hW : hM μ2 (eMen σ.1.1) 0 Vn) (hU : μ2.1 10 0 50 = nI m ∧ ∀ k, k < m → hM μ2 (eMen σ.1.1) (3 + k) (U k)) : mSt μ2 (σ.1, Vn, σ.2.2.1, σ.2.2.2.1, (m, U, σ.2.2.2.2.1.2.2), σ.2.2.2.2.2) := by
  obtain ⟨a1, a2, a3, a4, a5, a6, a7⟩ := h
  exact ⟨by rw [h10 51 (by omega) (by omega), h10 52 (by omega) (by omega)]; exact a1, a2.of (fun k hk => hG k 0 (by omega) (by omega)), hW, a4.of (fun k hk => hG k 0 (by omega) (by omega)) (fun j hj => h10 j (by omega) (by omega)), a5.of (h10 49 (by omega) (by omega)) h2, hU, a7.of (fun j hj => h10 j (by omega) (by omega)) (hG 705 0 (by omega) (by omega))⟩
section M4
variable {l : Launch} {D : gD} {d : Nat} {μ : gMem} {σ : sV}
theorem c_X10_undo (hd : 1 ≤ d) (h : mSt μ σ) (hO : sOkS σ) : Ctr l D d yX10_undo cX10_undo 1 (some .int) [.ref (D.2.2 10 0)] μ (pI (fun v μ' => v = undoV σ ∧ mSt μ' (undoS σ) ∧ cKp μ μ')) := by
  obtain ⟨u1, u2, u3⟩ := hO.2.2.2.2.1
  have h5 := hO.1.1.1
  refine en_X10_undo (fun Γ => bl_X10_undo_0 (by decide) ?_)
  rintro μ1 e1
  obtain ⟨h1, hK⟩ : mSt μ1 σ ∧ cKp μ μ1 := by rw [e1]; exact h.th hO
  clear e1
  have hun := h1.2.2.2.2.2.1
  have ez : μ1.1 10 0 50 = 0 ↔ σ.2.2.2.2.1.1 = 0 := by rw [hun.1]; exact nI_z (by omega)
  rw [ez]
  refine ⟨fun z => ?_, fun z => ⟨by rw [undoV, if_pos z], by rw [undoS, if_pos z]; exact h1, hK⟩⟩
  obtain ⟨k, hk⟩ : ∃ k, σ.2.2.2.2.1.1 = k + 1 := ⟨σ.2.2.2.2.1.1 - 1, by omega⟩
  have ek : σ.2.2.2.2.1.1 - 1 = k := by omega
  rw [undoV, if_neg z, undoS, if_neg z, ek, hun.1, hk, nI_pred]
  rintro μ2 e2
  have s2 : μ2.1 10 0 50 = nI k := by rw [e2, gsI_s]
  refine ⟨0, _, by omega, by rw [s2, show (3 : Int32) = nI 3 from rfl, nI_add]; exact c_X10_copies (a := 0) (b := 3 + k) (by decide) (by omega) (by omega), ?_⟩
  rintro _ rfl
  have hw2 : ∀ m V, hM μ1 (eMen σ.1.1) m V → hM μ2 (eMen σ.1.1) m V := fun m V hh => by rw [e2]; exact hM_10 hh
  have g10 : ∀ j, (mcp μ2 0 (3 + k)).1 10 0 j = μ2.1 10 0 j := fun j => by rw [mcp_off (by omega)]
  refine ⟨by rw [g10]; exact s2, ?_, hK.tr ⟨fun a b c1 c2 => by rw [mcp_off (by omega), e2, gsI_off (by omega)], by show μ2.2.2 = _; rw [e2]; rfl, fun a b _ => by show μ2.2.1 a b = _; rw [e2]; rfl⟩⟩
  refine mSt_now h1 (fun a b c1 c2 => by rw [mcp_off (by omega), e2, gsI_off (by omega)]) (fun j hj _ => by rw [g10, e2, gsI_at, if_neg (by omega)]) (fun V hV => hM_cpo h5 (by omega) (hw2 _ _ hV)) (hM_cp h5 (hw2 _ _ (hun.2 k (by omega)))) ⟨by rw [g10]; exact s2, fun q hq => hM_cpo h5 (by omega) (hw2 _ _ (hun.2 q (by omega)))⟩
theorem c_X10_keep (hd : 1 ≤ d) (h : mSt μ σ) (hO : sOkS σ) : Ctr l D d yX10_keep cX10_keep 1 (some .int) [.ref (D.2.2 10 0)] μ (pI (fun v μ' => v = nI σ.2.1.2.2.1 ∧ mSt μ' (keepS σ) ∧ cKp μ μ')) := by
  have h5 := hO.1.1.1
  refine en_X10_keep (fun Γ => bl_X10_keep_0 (by decide) ?_)
  rintro μ1 e1
  obtain ⟨h1, hK⟩ : mSt μ1 σ ∧ cKp μ μ1 := by rw [e1]; exact h.th hO
  clear e1
  refine ⟨0, _, by omega, c_X10_copies (a := 2) (b := 0) (by decide) (by decide) (by decide), ?_⟩
  rintro _ rfl μ2 e2
  obtain ⟨a1, a2, a3, a4, a5, a6, a7⟩ := h1
  have g : ∀ a b, ¬ (737 ≤ a ∧ a ≤ 751 ∧ b = 0) → ¬ (a = 10 ∧ b = 0) → μ2.1 a b = μ1.1 a b := fun a b c1 c2 => by rw [e2, gsI_off (by omega), mcp_off (by omega)]
  have g10 : ∀ j, ¬ j = 49 → μ2.1 10 0 j = μ1.1 10 0 j := fun j hj => by rw [e2, gsI_at, if_neg (by omega), mcp_off (by omega)]
  have hw : ∀ m V, ¬ m = 2 → hM μ1 (eMen σ.1.1) m V → hM μ2 (eMen σ.1.1) m V := fun m V hm hh => by rw [e2]; exact hM_10 (hM_cpo h5 hm hh)
  have hW := hw 0 _ (by omega) a3
  refine ⟨hW.2.2.1, ⟨by rw [g10 51 (by omega), g10 52 (by omega)]; exact a1, a2.of (fun k hk => g k 0 (by omega) (by omega)), hW, a4.of (fun k hk => g k 0 (by omega) (by omega)) (fun j hj => g10 j (by omega)), ⟨by rw [e2, gsI_s], by rw [e2]; exact hM_10 (hM_cp h5 a3)⟩, ⟨by rw [g10 50 (by omega)]; exact a6.1, fun k hk => hw _ _ (by omega) (a6.2 k hk)⟩, a7.of (fun j hj => g10 j (by omega)) (g 705 0 (by omega) (by omega))⟩, hK.tr ⟨fun a b c1 c2 => g a b (by omega) (by omega), by rw [e2]; rfl, fun a b _ => by rw [e2]; rfl⟩⟩
theorem c_X10_back (hd : 1 ≤ d) (h : mSt μ σ) (hO : sOkS σ) : Ctr l D d yX10_back cX10_back 1 (some .int) [.ref (D.2.2 10 0)] μ (pI (fun v μ' => v = backV σ ∧ mSt μ' (backS σ) ∧ cKp μ μ')) := by
  have h5 := hO.1.1.1
  refine en_X10_back (fun Γ => bl_X10_back_0 (by decide) ?_)
  rintro μ1 e1
  obtain ⟨h1, hK⟩ : mSt μ1 σ ∧ cKp μ μ1 := by rw [e1]; exact h.th hO
  clear e1
  have hI := h1.2.2.2.2.1
  unfold backV backS
  cases hI2 : σ.2.2.2.1 with
  | none =>
    rw [hI2] at hI
    have hI : μ1.1 10 0 49 = 0 := hI
    rw [hI]
    exact ⟨fun z => absurd rfl z, fun _ => ⟨rfl, h1, hK⟩⟩
  | some V =>
    rw [hI2] at hI
    obtain ⟨hI, hV⟩ : μ1.1 10 0 49 = 1 ∧ hM μ1 (eMen σ.1.1) 2 V := hI
    rw [hI]
    refine ⟨fun _ => ⟨0, _, by omega, c_X10_copies (a := 0) (b := 2) (by decide) (by decide) (by decide), ?_⟩, fun z => absurd z (by decide)⟩
    rintro _ rfl μ2 e2
    have hW : hM μ2 (eMen σ.1.1) 0 V := by rw [e2]; exact hM_10 (hM_cp h5 hV)
    refine ⟨hW.2.2.1, ?_, hK.tr ⟨fun a b c1 c2 => by rw [e2, gsI_off (by omega), mcp_off (by omega)], by rw [e2]; rfl, fun a b _ => by rw [e2]; rfl⟩⟩
    have := mSt_now (m := 0) (U := fun _ => V) h1 (fun a b c1 c2 => by rw [e2, gsI_off (by omega), mcp_off (by omega)]) (fun j hj _ => by rw [e2, gsI_at, if_neg (by omega), mcp_off (by omega)]) (fun W hh => by rw [e2]; exact hM_10 (hM_cpo h5 (by omega) hh)) hW ⟨by rw [e2, gsI_s]; rfl, fun k hk => absurd hk (Nat.not_lt_zero k)⟩
    rw [hI2] at this
    exact this
end M4
