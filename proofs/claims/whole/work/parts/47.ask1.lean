/-! questions about days ahead: ahead, falls, reaches, longest, habit -/
theorem iw_lit {x a b : Int32} {za zb : Int} (ha : a.toInt = za) (hb : b.toInt = zb) : iw x a b = 0 ↔ ¬ inR x za zb := by rw [iw_in, ha, hb]
theorem ix_eq {x : Int32} {k : Nat} (h : x = nI k) (hk : k < 2 ^ 31) : ix x = k := by
  unfold ix
  rw [h, nI_toInt hk]
  rfl
/-- the numbers that a call may name -/
theorem inR_ix {x : Int32} {b : Nat} (h : inR x 0 b) : x = nI (ix x) ∧ ix x ≤ b := ⟨ix_nI h.1, by have := h.2; unfold ix; omega⟩
theorem isM_ix {x : Int32} {m : Nat} (h : isM m x) : x = nI (ix x) ∧ ix x < m := ⟨ix_nI h.1, ix_lt h⟩
noncomputable def aheadF (A : wEnv) (wet : Int32) (dy : Nat) (S : pplS) (x1 x2 x3 : Int32) : Int32 :=
  if isM (eMen A) x1 ∧ inR x2 0 60 ∧ inR x3 0 3 then
    (if x3 = 0 then runF A wet (ix x2) dy S (ix x1) 6 - S (ix x1) 6 else if x3 = 1 then runF A wet (ix x2) dy S (ix x1) 5 - S (ix x1) 5 else if x3 = 2 then runF A wet (ix x2) dy S (ix x1) 2 else runF A wet (ix x2) dy S (ix x1) 1) else -1
noncomputable def fallsF (A : wEnv) (wet : Int32) (dy : Nat) (S : pplS) (x1 x2 : Int32) : Int32 :=
  if isM (eMen A) x1 ∧ inR x2 0 99 then runF A wet (ix x2) dy S (ix x1) 3 - S (ix x1) 3 else -1
/-- the first of the days from j on, c of them, on which a row stands -/
noncomputable def reachL (A : wEnv) (wet : Int32) (dy : Nat) (S : pplS) (man : Nat) : Nat → Nat → Int32
  | 0, _ => -2
  | c + 1, j => if runF A wet j dy S man 2 ≤ 0 then reachL A wet dy S man c (j + 1) else nI j
noncomputable def reachF (A : wEnv) (wet : Int32) (dy : Nat) (S : pplS) (x1 x2 : Int32) : Int32 := if isM (eMen A) x1 ∧ inR x2 1 99 then reachL A wet dy S (ix x1) (ix x2) 1 else -1
noncomputable def longL (A : wEnv) (wet : Int32) (dy : Nat) (S : pplS) (man : Nat) : Nat → Nat → Int32 → Int32
  | 0, _, m => m
  | c + 1, j, m => longL A wet dy S man c (j + 1) (imax m (runF A wet (j + 1) dy S man 2))
noncomputable def longF (A : wEnv) (wet : Int32) (dy : Nat) (S : pplS) (x1 x2 : Int32) : Int32 := if isM (eMen A) x1 ∧ inR x2 0 99 then longL A wet dy S (ix x1) (ix x2) 0 (S (ix x1) 2) else -1
noncomputable def habitL (A : wEnv) (wet : Int32) (dy : Nat) (S : pplS) (man : Nat) : Nat → Nat → Int32
  | 0, _ => -2
  | c + 1, j => if runF A wet j dy S man 1 < S man 0 then habitL A wet dy S man c (j + 1) else nI j
noncomputable def habitF (A : wEnv) (wet : Int32) (dy : Nat) (S : pplS) (x1 : Int32) : Int32 := if isM (eMen A) x1 then habitL A wet dy S (ix x1) 100 0 else -1
section Q1
variable {l : Launch} {D : gD} {d : Nat} {μ : gMem} {t n dy : Nat} {A : wEnv} {S : pplS} {x1 x2 x3 : Int32}
theorem nC.m7 (h : nC μ t n A S dy) : μ.1 7 t 0 = nI (eMen A) := h.2.2.1.1.1
theorem nC.iw (h : nC μ t n A S dy) : iw x1 0 (μ.1 7 t 0 - 1) = 0 ↔ ¬ isM (eMen A) x1 := by
  rw [h.m7]
  exact iw_man (by have := h.men; omega)
theorem c_X9_ahead (hd : 7 ≤ d) (h : nC μ t n A S dy) : Ctr l D d yX9_ahead cX9_ahead 5 (some .int) [.ref (D.2.2 9 0), .int x1, .int x2, .int x3] μ (pI (fun v μ' => v = aheadF A (wtC μ t) dy S x1 x2 x3 ∧ cqF μ μ' ∧ jk μ')) := by
  have h5 := h.men
  have hdy := h.2.2.2.2.1
  refine en_X9_ahead (fun Γ => bl_X9_ahead_0 (by decide) ?_)
  rw [h.1, h.iw, iw_lit (x := x2) (za := 0) (zb := 60) (by decide) (by decide), iw_lit (x := x3) (za := 0) (zb := 3) (by decide) (by decide)]
  refine ⟨by omega, h.2.1, fun z => ⟨by rw [aheadF, if_neg (fun w => z w.1)], cqF.rf, h.jk⟩, fun z1 => ⟨by omega, fun z => ⟨by rw [aheadF, if_neg (fun w => z w.2.1)], cqF.rf, h.jk⟩, fun z2 => ⟨by omega, fun z3 => ?_, fun z => ⟨by rw [aheadF, if_neg (fun w => z w.2.2)], cqF.rf, h.jk⟩⟩⟩⟩
  have z1 := Decidable.not_not.mp z1
  have z2 := Decidable.not_not.mp z2
  have z3 := Decidable.not_not.mp z3
  obtain ⟨m1, m2⟩ := isM_ix z1
  obtain ⟨n1, n2⟩ := inR_ix (b := 60) z2
  refine ⟨6, _, by omega, k_lookAhead m1 (by omega) h m2, ?_⟩
  rintro v μ1 _ ⟨rfl, hF1, hn1, hl1⟩
  refine ⟨6, _, by omega, k_pass n1 (by omega) hn1 m2 hl1 h.nobh (by omega), ?_⟩
  rintro μ2 ⟨hF2, hn2, hl2⟩
  rw [wtC.cq hF1] at hl2
  have hF := hF1.tr hF2
  have row : ∀ j, μ2.1 4 (5 * 0 + ix x1) j = S (ix x1) j := fun j => by rw [Nat.mul_zero, Nat.zero_add, hn2.row (by omega)]
  have val : aheadF A (wtC μ t) dy S x1 x2 x3 = (if x3 = 0 then runF A (wtC μ t) (ix x2) dy S (ix x1) 6 - S (ix x1) 6 else if x3 = 1 then runF A (wtC μ t) (ix x2) dy S (ix x1) 5 - S (ix x1) 5 else if x3 = 2 then runF A (wtC μ t) (ix x2) dy S (ix x1) 2 else runF A (wtC μ t) (ix x2) dy S (ix x1) 1) := if_pos ⟨z1, z2, z3⟩
  rw [val]
  refine ⟨fun q => ⟨ix x1, by omega, m1, ?_, hF, hl2.jk⟩, fun q => ⟨ix x1, by omega, m1, ?_, hF, hl2.jk⟩, fun q => ⟨?_, hF, hl2.jk⟩, fun q => ⟨?_, hF, hl2.jk⟩⟩
  · rw [if_pos q, row, hl2.at m2 h5 (by omega)]
  · rw [if_neg (by rw [q]; decide), if_pos q, row, hl2.at m2 h5 (by omega)]
  · rw [if_neg (by rw [q]; decide), if_neg (by rw [q]; decide), if_pos q, hl2.at m2 h5 (by omega)]
  · rw [if_neg q.1, if_neg q.2.1, if_neg q.2.2, hl2.at m2 h5 (by omega)]
theorem c_X9_falls (hd : 7 ≤ d) (h : nC μ t n A S dy) : Ctr l D d yX9_falls cX9_falls 4 (some .int) [.ref (D.2.2 9 0), .int x1, .int x2] μ (pI (fun v μ' => v = fallsF A (wtC μ t) dy S x1 x2 ∧ cqF μ μ' ∧ jk μ')) := by
  have h5 := h.men
  have hdy := h.2.2.2.2.1
  refine en_X9_falls (fun Γ => bl_X9_falls_0 (by decide) ?_)
  rw [h.1, h.iw, iw_lit (x := x2) (za := 0) (zb := 99) (by decide) (by decide)]
  refine ⟨by omega, h.2.1, fun z => ⟨by rw [fallsF, if_neg (fun w => z w.1)], cqF.rf, h.jk⟩, fun z1 => ⟨by omega, fun z2 => ?_, fun z => ⟨by rw [fallsF, if_neg (fun w => z w.2)], cqF.rf, h.jk⟩⟩⟩
  have z1 := Decidable.not_not.mp z1
  have z2 := Decidable.not_not.mp z2
  obtain ⟨m1, m2⟩ := isM_ix z1
  obtain ⟨n1, n2⟩ := inR_ix (b := 99) z2
  refine ⟨6, _, by omega, k_lookAhead m1 (by omega) h m2, ?_⟩
  rintro v μ1 _ ⟨rfl, hF1, hn1, hl1⟩
  refine ⟨6, _, by omega, k_pass n1 (by omega) hn1 m2 hl1 h.nobh (by omega), ?_⟩
  rintro μ2 ⟨hF2, hn2, hl2⟩
  rw [wtC.cq hF1] at hl2
  refine ⟨ix x1, by omega, m1, ?_, hF1.tr hF2, hl2.jk⟩
  rw [fallsF, if_pos ⟨z1, z2⟩, hl2.at m2 h5 (by omega), Nat.mul_zero, Nat.zero_add, hn2.row (by omega)]
theorem reachesC_loop {Γ : gC} {q : Int32 → gMem → Prop} {man m : Nat} {μ0 : gMem} {b v : Int32} (hd : 7 ≤ d) (hm : man < eMen A) (h5 : eMen A ≤ 5) (hmm : m ≤ 99) (hdy : dy ≤ 9900) (hb : b = 0 → noBh A.1.1 A.1.2.1 A.1.2.2) (hq : ∀ μ', cqF μ0 μ' → jk μ' → q v μ') :
    ∀ (c j : Nat) (μ : gMem), j + c = m → cqF μ0 μ → nC μ t n A S dy → lkC μ t n A b man (runF A (wtC μ0 t) j dy S) (dy + j) → reachL A (wtC μ0 t) dy S man c (j + 1) = v → pt_X9_reaches_1 l D d q Γ 0 (nI m) (10 + man) (nI (j + 1)) μ := by
  intro c
  induction c with
  | zero =>
    intro j μ hj hF hn hl hv
    refine bl_X9_reaches_1 (by decide) (by omega) ⟨fun _ => ?_, fun z => ?_⟩
    · rw [show (-2 : Int32) = v from hv]
      exact hq μ hF hl.jk
    · exfalso
      rw [i32_lt, nI_toInt (by omega), nI_toInt (by omega)] at z
      omega
  | succ c ih =>
    intro j μ hj hF hn hl hv
    refine bl_X9_reaches_1 (by decide) (by omega) ⟨fun z => ?_, fun _ => ⟨6, _, by omega, k_pass (m := 1) rfl (by omega) hn hm hl hb (by omega), ?_⟩⟩
    · exfalso
      rw [i32_lt, nI_toInt (by omega), nI_toInt (by omega)] at z
      omega
    · rintro μ1 ⟨hF1, hn1, hl1⟩
      rw [wtC.cq hF] at hl1
      have hl1' : lkC μ1 t n A b man (runF A (wtC μ0 t) (j + 1) dy S) (dy + (j + 1)) := hl1
      rw [hl1'.at hm h5 (by omega)]
      simp only [reachL] at hv
      refine ⟨fun z => ?_, fun z => ?_⟩
      · rintro _ rfl
        rw [nI_1]
        rw [if_pos z] at hv
        exact ih (j + 1) μ1 (by omega) (hF.tr hF1) hn1 hl1' hv
      · rw [if_neg z] at hv
        rw [hv]
        exact hq μ1 (hF.tr hF1) hl1.jk
theorem c_X9_reaches (hd : 7 ≤ d) (h : nC μ t n A S dy) : Ctr l D d yX9_reaches cX9_reaches 5 (some .int) [.ref (D.2.2 9 0), .int x1, .int x2] μ (pI (fun v μ' => v = reachF A (wtC μ t) dy S x1 x2 ∧ cqF μ μ' ∧ jk μ')) := by
  have h5 := h.men
  have hdy := h.2.2.2.2.1
  refine en_X9_reaches (fun Γ => bl_X9_reaches_0 (by decide) ?_)
  rw [h.1, h.iw, iw_lit (x := x2) (za := 1) (zb := 99) (by decide) (by decide)]
  refine ⟨by omega, h.2.1, fun z => ⟨by rw [reachF, if_neg (fun w => z w.1)], cqF.rf, h.jk⟩, fun z1 => ⟨by omega, fun z2 => ?_, fun z => ⟨by rw [reachF, if_neg (fun w => z w.2)], cqF.rf, h.jk⟩⟩⟩
  have z1 := Decidable.not_not.mp z1
  have z2 := Decidable.not_not.mp z2
  obtain ⟨m1, m2⟩ := isM_ix z1
  obtain ⟨n1, n2⟩ := inR_ix (b := 99) (x := x2) ⟨by omega, z2.2⟩
  refine ⟨6, _, by omega, k_lookAhead m1 (by omega) h m2, ?_⟩
  rintro v μ1 _ ⟨rfl, hF1, hn1, hl1⟩ _ rfl
  have := reachesC_loop (l := l) (D := D) (d := d) (Γ := Γ) (q := fun v μ' => v = reachF A (wtC μ t) dy S x1 x2 ∧ cqF μ μ' ∧ jk μ') (t := t) (n := n) (A := A) (S := S) (dy := dy) (man := ix x1) (m := ix x2) (μ0 := μ1) (b := μ.1 2 t 8) (v := reachF A (wtC μ t) dy S x1 x2) hd m2 h5 n2 hdy h.nobh (fun μ' a b => ⟨rfl, hF1.tr a, b⟩) (ix x2) 0 μ1 (by omega) cqF.rf hn1 hl1 (by rw [wtC.cq hF1, reachF, if_pos ⟨z1, z2⟩])
  rw [← n1] at this
  exact this
theorem longestC_loop {Γ : gC} {q : Int32 → gMem → Prop} {man m : Nat} {μ0 : gMem} {b v : Int32} (hd : 7 ≤ d) (hm : man < eMen A) (h5 : eMen A ≤ 5) (hmm : m ≤ 99) (hdy : dy ≤ 9900) (hb : b = 0 → noBh A.1.1 A.1.2.1 A.1.2.2) (hq : ∀ μ', cqF μ0 μ' → jk μ' → q v μ') :
    ∀ (c j : Nat) (μ : gMem) (x : Int32), j + c = m → cqF μ0 μ → nC μ t n A S dy → lkC μ t n A b man (runF A (wtC μ0 t) j dy S) (dy + j) → longL A (wtC μ0 t) dy S man c j x = v → pt_X9_longest_1 l D d q Γ 0 (nI m) (10 + man) x (nI j) μ := by
  intro c
  induction c with
  | zero =>
    intro j μ x hj hF hn hl hv
    refine bl_X9_longest_1 (by decide) (by omega) ⟨fun _ => ?_, fun z => ?_⟩
    · rw [show x = v from hv]
      exact hq μ hF hl.jk
    · exact absurd (nI_le (by omega) (by omega)) z
  | succ c ih =>
    intro j μ x hj hF hn hl hv
    refine bl_X9_longest_1 (by decide) (by omega) ⟨fun z => absurd z (nI_ge (by omega) (by omega)), fun _ => ⟨6, _, by omega, k_pass (m := 1) rfl (by omega) hn hm hl hb (by omega), ?_⟩⟩
    rintro μ1 ⟨hF1, hn1, hl1⟩
    rw [wtC.cq hF] at hl1
    have hl1' : lkC μ1 t n A b man (runF A (wtC μ0 t) (j + 1) dy S) (dy + (j + 1)) := hl1
    rw [hl1'.at hm h5 (by omega)]
    refine ⟨by omega, ?_⟩
    rintro _ rfl _ rfl
    rw [nI_1]
    exact ih (j + 1) μ1 _ (by omega) (hF.tr hF1) hn1 hl1' hv
theorem c_X9_longest (hd : 7 ≤ d) (h : nC μ t n A S dy) : Ctr l D d yX9_longest cX9_longest 6 (some .int) [.ref (D.2.2 9 0), .int x1, .int x2] μ (pI (fun v μ' => v = longF A (wtC μ t) dy S x1 x2 ∧ cqF μ μ' ∧ jk μ')) := by
  have h5 := h.men
  have hdy := h.2.2.2.2.1
  refine en_X9_longest (fun Γ => bl_X9_longest_0 (by decide) ?_)
  rw [h.1, h.iw, iw_lit (x := x2) (za := 0) (zb := 99) (by decide) (by decide)]
  refine ⟨by omega, h.2.1, fun z => ⟨by rw [longF, if_neg (fun w => z w.1)], cqF.rf, h.jk⟩, fun z1 => ⟨by omega, fun z2 => ?_, fun z => ⟨by rw [longF, if_neg (fun w => z w.2)], cqF.rf, h.jk⟩⟩⟩
  have z1 := Decidable.not_not.mp z1
  have z2 := Decidable.not_not.mp z2
  obtain ⟨m1, m2⟩ := isM_ix z1
  obtain ⟨n1, n2⟩ := inR_ix (b := 99) z2
  refine ⟨6, _, by omega, k_lookAhead m1 (by omega) h m2, ?_⟩
  rintro v μ1 _ ⟨rfl, hF1, hn1, hl1⟩ _ rfl _ rfl
  have := longestC_loop (l := l) (D := D) (d := d) (Γ := Γ) (q := fun v μ' => v = longF A (wtC μ t) dy S x1 x2 ∧ cqF μ μ' ∧ jk μ') (t := t) (n := n) (A := A) (S := S) (dy := dy) (man := ix x1) (m := ix x2) (μ0 := μ1) (b := μ.1 2 t 8) (v := longF A (wtC μ t) dy S x1 x2) hd m2 h5 n2 hdy h.nobh (fun μ' a b => ⟨rfl, hF1.tr a, b⟩) (ix x2) 0 μ1 (μ1.1 4 (10 + ix x1) 2) (by omega) cqF.rf hn1 hl1 (by rw [wtC.cq hF1, hl1.at m2 h5 (by omega), longF, if_pos ⟨z1, z2⟩])
  rw [← n1] at this
  exact this
theorem habitC_loop {Γ : gC} {q : Int32 → gMem → Prop} {man : Nat} {μ0 : gMem} {b v : Int32} (hd : 7 ≤ d) (hm : man < eMen A) (h5 : eMen A ≤ 5) (hdy : dy ≤ 9900) (hb : b = 0 → noBh A.1.1 A.1.2.1 A.1.2.2) (hq : ∀ μ', cqF μ0 μ' → jk μ' → q v μ') :
    ∀ (c j : Nat) (μ : gMem), j + c = 99 → cqF μ0 μ → nC μ t n A S dy → lkC μ t n A b man (runF A (wtC μ0 t) j dy S) (dy + j) → habitL A (wtC μ0 t) dy S man (c + 1) j = v → pt_X9_habit_1 l D d q Γ 0 (10 + man) (nI j) μ := by
  have e99 : (99 : Int32) = nI 99 := rfl
  intro c
  induction c with
  | zero =>
    intro j μ hj hF hn hl hv
    have hg : μ.1 4 (10 + man) 0 = S man 0 := by rw [hl.at hm h5 (by omega), runF_0]
    have hbs : μ.1 4 (10 + man) 1 = runF A (wtC μ0 t) j dy S man 1 := hl.at hm h5 (by omega)
    simp only [habitL] at hv
    refine bl_X9_habit_1 (by decide) (by omega) ⟨fun _ => ⟨fun z => ?_, fun z => ?_⟩, fun z => ?_⟩
    · rw [hg, hbs] at z
      rw [if_pos z] at hv
      rw [hv]
      exact hq μ hF hl.jk
    · rw [hg, hbs] at z
      rw [if_neg z, show j = 99 by omega] at hv
      rw [e99, hv]
      exact hq μ hF hl.jk
    · rw [e99] at z
      exact absurd (nI_le (by omega) (by omega)) z
  | succ c ih =>
    intro j μ hj hF hn hl hv
    have hg : μ.1 4 (10 + man) 0 = S man 0 := by rw [hl.at hm h5 (by omega), runF_0]
    have hbs : μ.1 4 (10 + man) 1 = runF A (wtC μ0 t) j dy S man 1 := hl.at hm h5 (by omega)
    rw [habitL] at hv
    refine bl_X9_habit_1 (by decide) (by omega) ⟨fun z => ?_, fun _ => ⟨fun z => ?_, fun z => ?_⟩⟩
    · rw [e99] at z
      exact absurd z (nI_ge (by omega) (by omega))
    · rw [hg, hbs] at z
      rw [if_pos z] at hv
      refine ⟨6, _, by omega, k_pass (m := 1) rfl (by omega) hn hm hl hb (by omega), ?_⟩
      rintro μ1 ⟨hF1, hn1, hl1⟩ _ rfl
      rw [wtC.cq hF] at hl1
      have hl1' : lkC μ1 t n A b man (runF A (wtC μ0 t) (j + 1) dy S) (dy + (j + 1)) := hl1
      rw [nI_1]
      exact ih (j + 1) μ1 (by omega) (hF.tr hF1) hn1 hl1' hv
    · rw [hg, hbs] at z
      rw [if_neg z] at hv
      rw [hv]
      exact hq μ hF hl.jk
theorem c_X9_habit (hd : 7 ≤ d) (h : nC μ t n A S dy) : Ctr l D d yX9_habit cX9_habit 4 (some .int) [.ref (D.2.2 9 0), .int x1] μ (pI (fun v μ' => v = habitF A (wtC μ t) dy S x1 ∧ cqF μ μ' ∧ jk μ')) := by
  have h5 := h.men
  have hdy := h.2.2.2.2.1
  refine en_X9_habit (fun Γ => bl_X9_habit_0 (by decide) ?_)
  rw [h.1, h.iw]
  refine ⟨by omega, h.2.1, fun z1 => ?_, fun z => ⟨by rw [habitF, if_neg z], cqF.rf, h.jk⟩⟩
  have z1 := Decidable.not_not.mp z1
  obtain ⟨m1, m2⟩ := isM_ix z1
  refine ⟨6, _, by omega, k_lookAhead m1 (by omega) h m2, ?_⟩
  rintro v μ1 _ ⟨rfl, hF1, hn1, hl1⟩ _ rfl
  exact habitC_loop (μ0 := μ1) (b := μ.1 2 t 8) (v := habitF A (wtC μ t) dy S x1) (S := S) hd m2 h5 hdy h.nobh (fun μ' a b => ⟨rfl, hF1.tr a, b⟩) 99 0 μ1 (by omega) cqF.rf hn1 hl1 (by rw [wtC.cq hF1, habitF, if_pos z1])
end Q1
