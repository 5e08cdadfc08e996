/-! the same questions, the reference -/
theorem lt0 {x : Int32} : x < 0 ↔ x.toInt < 0 := by rw [i32_lt, i32_0]
theorem ltL {x a : Int32} {z : Int} (h : a.toInt = z) : x < a ↔ x.toInt < z := by rw [i32_lt, h]
theorem gtL {x a : Int32} {z : Int} (h : a.toInt = z) : a < x ↔ z < x.toInt := by rw [i32_lt, h]
theorem leL {x a : Int32} {z : Int} (h : a.toInt = z) : x ≤ a ↔ x.toInt ≤ z := by rw [i32_le, h]
theorem ix5c (p : Nat) : (5 : Int32) + nI p = nI (5 + p) := by
  have e : (5 : Int32) = nI 5 := rfl
  rw [e, nI_add]
section Q1M
variable {l : Launch} {D : gD} {d : Nat} {μ : gMem} {n dy : Nat} {A : wEnv} {S : pplS} {x1 x2 x3 : Int32}
theorem nM.isn (h : nM μ n A S dy) : isn x1 (μ.1 707 0 0) = 0 ↔ ¬ isM (eMen A) x1 := by
  rw [h.1.1.1]
  exact isn_man (by have := h.men; omega)
theorem nM.th (h : nM μ n A S dy) : mqF μ (gsI μ 10 0 0 0) ∧ nM (gsI μ 10 0 0 0) n A S dy := by
  have hF : mqF μ (gsI μ 10 0 0 0) := mqF.rf.put (by omega)
  exact ⟨hF, h.mq hF⟩
/-- rows of the run and of now -/
theorem wM.at {e dy' k j : Nat} {S' : pplS} (h : wM μ n 1 A e S' dy') (hk : k < eMen A) (hj : j < 10) : μ.1 (mkk j) 0 (5 + k) = S' k j := h.row (m := 1) hk hj
theorem c_X10_ahead (hd : 7 ≤ d) (h : nM μ n A S dy) : Ctr l D d yX10_ahead cX10_ahead 5 (some .int) [.ref (D.2.2 10 0), .int x1, .int x2, .int x3] μ (pI (fun v μ' => v = aheadF A (wtM μ) dy S x1 x2 x3 ∧ mqF μ μ')) := by
  have h5 := h.men
  have hdy := h.2.2.1
  refine en_X10_ahead (fun Γ => bl_X10_ahead_0 (by decide) ?_)
  rintro μ1 rfl
  obtain ⟨hF0, h1⟩ := h.th
  rw [h1.isn, lt0, lt0, gtL (z := 60) (by decide), leL (z := 3) (by decide)]
  refine ⟨by omega, fun z => ⟨by rw [aheadF, if_neg (fun w => z w.1)], hF0⟩, fun z1 => ⟨fun z => ⟨by rw [aheadF, if_neg (fun w => by have := w.2.1; omega)], hF0⟩, fun z2 => ⟨fun z => ⟨by rw [aheadF, if_neg (fun w => by have := w.2.1; omega)], hF0⟩, fun z3 => ⟨fun z => ⟨by rw [aheadF, if_neg (fun w => by have := w.2.2; omega)], hF0⟩, fun z4 => ⟨fun z5 => ?_, fun z => ⟨by rw [aheadF, if_neg (fun w => by have := w.2.2; omega)], hF0⟩⟩⟩⟩⟩⟩
  have z1 := Decidable.not_not.mp z1
  have y2 : inR x2 0 60 := by omega
  have y3 : inR x3 0 3 := by omega
  obtain ⟨m1, m2⟩ := isM_ix z1
  obtain ⟨n1, n2⟩ := inR_ix (b := 60) y2
  refine ⟨6, _, by omega, c_X10_runs n1 (by omega) h1.1 (by omega) (by omega) (by omega), ?_⟩
  rintro μ2 ⟨hF2, hw2⟩ _ rfl
  rw [wtM.mq hF0] at hw2
  have hF := hF0.tr hF2
  have hn2 := h1.mq hF2
  have ei : (5 : Int32) + x1 = nI (5 + ix x1) := by
    have := ix5c (ix x1)
    rw [← m1] at this
    exact this
  rw [aheadF, if_pos ⟨z1, y2, y3⟩]
  refine ⟨fun q => ⟨_, by omega, ei, ix x1, by omega, m1, ?_, hF⟩, fun q => ⟨_, by omega, ei, ix x1, by omega, m1, ?_, hF⟩, fun q => ⟨_, by omega, ei, ?_, hF⟩, fun q => ⟨_, by omega, ei, ?_, hF⟩⟩
  · rw [if_pos q, ← hw2.at m2 (j := 6) (by omega), ← hn2.row m2 (j := 6) (by omega)]; rfl
  · rw [if_neg (by rw [q]; decide), if_pos q, ← hw2.at m2 (j := 5) (by omega), ← hn2.row m2 (j := 5) (by omega)]; rfl
  · rw [if_neg (by rw [q]; decide), if_neg (by rw [q]; decide), if_pos q, ← hw2.at m2 (j := 2) (by omega)]; rfl
  · rw [if_neg q.1, if_neg q.2.1, if_neg q.2.2, ← hw2.at m2 (j := 1) (by omega)]; rfl
theorem c_X10_falls (hd : 7 ≤ d) (h : nM μ n A S dy) : Ctr l D d yX10_falls cX10_falls 3 (some .int) [.ref (D.2.2 10 0), .int x1, .int x2] μ (pI (fun v μ' => v = fallsF A (wtM μ) dy S x1 x2 ∧ mqF μ μ')) := by
  have h5 := h.men
  have hdy := h.2.2.1
  refine en_X10_falls (fun Γ => bl_X10_falls_0 (by decide) ?_)
  rintro μ1 rfl
  obtain ⟨hF0, h1⟩ := h.th
  rw [h1.isn, lt0, leL (z := 99) (by decide)]
  refine ⟨by omega, fun z => ⟨by rw [fallsF, if_neg (fun w => z w.1)], hF0⟩, fun z1 => ⟨fun z => ⟨by rw [fallsF, if_neg (fun w => by have := w.2; omega)], hF0⟩, fun z2 => ⟨fun z3 => ?_, fun z => ⟨by rw [fallsF, if_neg (fun w => by have := w.2; omega)], hF0⟩⟩⟩⟩
  have z1 := Decidable.not_not.mp z1
  have y2 : inR x2 0 99 := by omega
  obtain ⟨m1, m2⟩ := isM_ix z1
  obtain ⟨n1, n2⟩ := inR_ix (b := 99) y2
  refine ⟨6, _, by omega, c_X10_runs n1 (by omega) h1.1 (by omega) (by omega) (by omega), ?_⟩
  rintro μ2 ⟨hF2, hw2⟩
  rw [wtM.mq hF0] at hw2
  have hn2 := h1.mq hF2
  have ei : (5 : Int32) + x1 = nI (5 + ix x1) := by
    have := ix5c (ix x1)
    rw [← m1] at this
    exact this
  refine ⟨_, by omega, ei, ix x1, by omega, m1, ?_, hF0.tr hF2⟩
  rw [fallsF, if_pos ⟨z1, y2⟩, ← hw2.at m2 (j := 3) (by omega), ← hn2.row m2 (j := 3) (by omega)]; rfl
theorem reachesM_loop {Γ : gC} {q : Int32 → gMem → Prop} {man m : Nat} {μ0 : gMem} {v : Int32} (hd : 7 ≤ d) (hm : man < eMen A) (h5 : eMen A ≤ 5) (hmm : m ≤ 99) (hdy : dy ≤ 9900) (hq : ∀ μ', mqF μ0 μ' → q v μ') :
    ∀ (c j : Nat) (μ : gMem), j + c = m → mqF μ0 μ → wM μ n 1 A 0 (runF A (wtM μ0) j dy S) (dy + j) → reachL A (wtM μ0) dy S man c (j + 1) = v → pt_X10_reaches_1 l D d q Γ 0 (nI man) (nI m) (nI (j + 1)) μ := by
  intro c
  induction c with
  | zero =>
    intro j μ hj hF hl hv
    refine bl_X10_reaches_1 (by decide) ⟨fun _ => ?_, fun z => ?_⟩
    · rw [show (-2 : Int32) = v from hv]
      exact hq μ hF
    · exfalso
      rw [i32_lt, nI_toInt (by omega), nI_toInt (by omega)] at z
      omega
  | succ c ih =>
    intro j μ hj hF hl hv
    refine bl_X10_reaches_1 (by decide) ⟨fun z => ?_, fun _ => ⟨5, _, by omega, d_run (by omega) hl (by omega) (by omega), ?_⟩⟩
    · exfalso
      rw [i32_lt, nI_toInt (by omega), nI_toInt (by omega)] at z
      omega
    · rintro μ1 ⟨hF1, hl1, -⟩
      rw [wtM.mq hF] at hl1
      have hl1' : wM μ1 n 1 A 0 (runF A (wtM μ0) (j + 1) dy S) (dy + (j + 1)) := hl1
      refine ⟨5 + man, by omega, ix5c man, ?_⟩
      have hv2 : μ1.1 742 0 (5 + man) = _ := hl1'.at hm (j := 2) (by omega)
      rw [hv2]
      simp only [reachL] at hv
      refine ⟨fun z => ?_, fun z => ?_⟩
      · rintro _ rfl
        rw [nI_1]
        rw [if_pos z] at hv
        exact ih (j + 1) μ1 (by omega) (hF.tr hF1) hl1' hv
      · rw [if_neg z] at hv
        rw [hv]
        exact hq μ1 (hF.tr hF1)
theorem c_X10_reaches (hd : 7 ≤ d) (h : nM μ n A S dy) : Ctr l D d yX10_reaches cX10_reaches 4 (some .int) [.ref (D.2.2 10 0), .int x1, .int x2] μ (pI (fun v μ' => v = reachF A (wtM μ) dy S x1 x2 ∧ mqF μ μ')) := by
  have h5 := h.men
  have hdy := h.2.2.1
  refine en_X10_reaches (fun Γ => bl_X10_reaches_0 (by decide) ?_)
  rintro μ1 rfl
  obtain ⟨hF0, h1⟩ := h.th
  rw [h1.isn, ltL (z := 1) (by decide), leL (z := 99) (by decide)]
  refine ⟨by omega, fun z => ⟨by rw [reachF, if_neg (fun w => z w.1)], hF0⟩, fun z1 => ⟨fun z => ⟨by rw [reachF, if_neg (fun w => by have := w.2; omega)], hF0⟩, fun z2 => ⟨fun z3 => ?_, fun z => ⟨by rw [reachF, if_neg (fun w => by have := w.2; omega)], hF0⟩⟩⟩⟩
  have z1 := Decidable.not_not.mp z1
  have y2 : inR x2 1 99 := by omega
  obtain ⟨m1, m2⟩ := isM_ix z1
  obtain ⟨n1, n2⟩ := inR_ix (b := 99) (x := x2) ⟨by omega, y2.2⟩
  refine ⟨6, _, by omega, c_X10_copies (a := 1) (b := 0) (by decide) (by decide) (by decide), ?_⟩
  rintro _ rfl _ rfl
  have hF1 := hF0.tr (mcp_mq (μ := gsI μ 10 0 0 0))
  have := reachesM_loop (l := l) (D := D) (d := d) (Γ := Γ) (q := fun v μ' => v = reachF A (wtM μ) dy S x1 x2 ∧ mqF μ μ') (n := n) (A := A) (S := S) (dy := dy) (man := ix x1) (m := ix x2) (μ0 := mcp (gsI μ 10 0 0 0) 1 0) (v := reachF A (wtM μ) dy S x1 x2) hd m2 h5 n2 hdy (fun μ' a => ⟨rfl, hF1.tr a⟩) (ix x2) 0 _ (by omega) mqF.rf (mcp_wM h1.1) (by rw [wtM.mq hF1, reachF, if_pos ⟨z1, y2⟩])
  rw [← n1, ← m1] at this
  exact this
theorem longestM_loop {Γ : gC} {q : Int32 → gMem → Prop} {man m : Nat} {μ0 : gMem} {v : Int32} (hd : 7 ≤ d) (hm : man < eMen A) (h5 : eMen A ≤ 5) (hmm : m ≤ 99) (hdy : dy ≤ 9900) (hq : ∀ μ', mqF μ0 μ' → q v μ') :
    ∀ (c j : Nat) (μ : gMem) (x : Int32), j + c = m → mqF μ0 μ → wM μ n 1 A 0 (runF A (wtM μ0) j dy S) (dy + j) → longL A (wtM μ0) dy S man c j x = v → pt_X10_longest_1 l D d q Γ 0 (nI man) (nI m) x (nI j) μ := by
  intro c
  induction c with
  | zero =>
    intro j μ x hj hF hl hv
    refine bl_X10_longest_1 (by decide) ⟨fun _ => ?_, fun z => ?_⟩
    · rw [show x = v from hv]
      exact hq μ hF
    · exact absurd (nI_le (by omega) (by omega)) z
  | succ c ih =>
    intro j μ x hj hF hl hv
    refine bl_X10_longest_1 (by decide) ⟨fun z => absurd z (nI_ge (by omega) (by omega)), fun _ => ⟨5, _, by omega, d_run (by omega) hl (by omega) (by omega), ?_⟩⟩
    rintro μ1 ⟨hF1, hl1, -⟩
    rw [wtM.mq hF] at hl1
    have hl1' : wM μ1 n 1 A 0 (runF A (wtM μ0) (j + 1) dy S) (dy + (j + 1)) := hl1
    refine ⟨5 + man, by omega, ix5c man, by omega, ?_⟩
    have hv2 : μ1.1 742 0 (5 + man) = _ := hl1'.at hm (j := 2) (by omega)
    rw [hv2]
    rintro _ rfl _ rfl
    rw [nI_1]
    exact ih (j + 1) μ1 _ (by omega) (hF.tr hF1) hl1' hv
theorem c_X10_longest (hd : 7 ≤ d) (h : nM μ n A S dy) : Ctr l D d yX10_longest cX10_longest 5 (some .int) [.ref (D.2.2 10 0), .int x1, .int x2] μ (pI (fun v μ' => v = longF A (wtM μ) dy S x1 x2 ∧ mqF μ μ')) := by
  have h5 := h.men
  have hdy := h.2.2.1
  refine en_X10_longest (fun Γ => bl_X10_longest_0 (by decide) ?_)
  rintro μ1 rfl
  obtain ⟨hF0, h1⟩ := h.th
  rw [h1.isn, lt0, leL (z := 99) (by decide)]
  refine ⟨by omega, fun z => ⟨by rw [longF, if_neg (fun w => z w.1)], hF0⟩, fun z1 => ⟨fun z => ⟨by rw [longF, if_neg (fun w => by have := w.2; omega)], hF0⟩, fun z2 => ⟨fun z3 => ?_, fun z => ⟨by rw [longF, if_neg (fun w => by have := w.2; omega)], hF0⟩⟩⟩⟩
  have z1 := Decidable.not_not.mp z1
  have y2 : inR x2 0 99 := by omega
  obtain ⟨m1, m2⟩ := isM_ix z1
  obtain ⟨n1, n2⟩ := inR_ix (b := 99) y2
  refine ⟨ix x1, by omega, m1, ?_⟩
  rintro _ rfl
  have hv2 : (gsI μ 10 0 0 0).1 742 0 (ix x1) = _ := h1.row m2 (j := 2) (by omega)
  rw [hv2]
  refine ⟨6, _, by omega, c_X10_copies (a := 1) (b := 0) (by decide) (by decide) (by decide), ?_⟩
  rintro _ rfl _ rfl
  have hF1 := hF0.tr (mcp_mq (μ := gsI μ 10 0 0 0))
  have := longestM_loop (l := l) (D := D) (d := d) (Γ := Γ) (q := fun v μ' => v = longF A (wtM μ) dy S x1 x2 ∧ mqF μ μ') (n := n) (A := A) (S := S) (dy := dy) (man := ix x1) (m := ix x2) (μ0 := mcp (gsI μ 10 0 0 0) 1 0) (v := longF A (wtM μ) dy S x1 x2) hd m2 h5 n2 hdy (fun μ' a => ⟨rfl, hF1.tr a⟩) (ix x2) 0 _ (S (ix x1) 2) (by omega) mqF.rf (mcp_wM h1.1) (by rw [wtM.mq hF1, longF, if_pos ⟨z1, y2⟩])
  rw [← n1, ← m1] at this
  exact this
theorem habitM_loop {Γ : gC} {q : Int32 → gMem → Prop} {man : Nat} {μ0 : gMem} {v : Int32} (hd : 7 ≤ d) (hm : man < eMen A) (h5 : eMen A ≤ 5) (hdy : dy ≤ 9900) (hq : ∀ μ', mqF μ0 μ' → q v μ') :
    ∀ (c j : Nat) (μ : gMem), j + c = 100 → mqF μ0 μ → nM μ n A S dy → wM μ n 1 A 0 (runF A (wtM μ0) j dy S) (dy + j) → habitL A (wtM μ0) dy S man c j = v → pt_X10_habit_1 l D d q Γ 0 (nI man) (nI j) μ := by
  have e99 : (99 : Int32) = nI 99 := rfl
  intro c
  induction c with
  | zero =>
    intro j μ hj hF hn hl hv
    refine bl_X10_habit_1 (by decide) ⟨fun _ => ?_, fun z => ?_⟩
    · rw [show (-2 : Int32) = v from hv]
      exact hq μ hF
    · exfalso
      rw [e99, i32_lt, nI_toInt (by omega), nI_toInt (by omega)] at z
      omega
  | succ c ih =>
    intro j μ hj hF hn hl hv
    have hg : μ.1 740 0 man = S man 0 := hn.row hm (j := 0) (by omega)
    have hbs : μ.1 741 0 (5 + man) = runF A (wtM μ0) j dy S man 1 := hl.at hm (j := 1) (by omega)
    simp only [habitL] at hv
    refine bl_X10_habit_1 (by decide) ⟨fun z => ?_, fun _ => ⟨5 + man, by omega, ix5c man, man, by omega, rfl, fun z => ?_, fun z => ?_⟩⟩
    · exfalso
      rw [e99, i32_lt, nI_toInt (by omega), nI_toInt (by omega)] at z
      omega
    · rw [hg, hbs] at z
      rw [if_pos z] at hv
      refine ⟨5, _, by omega, d_run (by omega) hl (by omega) (by omega), ?_⟩
      rintro μ1 ⟨hF1, hl1, -⟩ _ rfl
      rw [wtM.mq hF] at hl1
      rw [nI_1]
      exact ih (j + 1) μ1 (by omega) (hF.tr hF1) (hn.mq hF1) hl1 hv
    · rw [hg, hbs] at z
      rw [if_neg z] at hv
      rw [hv]
      exact hq μ hF
theorem c_X10_habit (hd : 7 ≤ d) (h : nM μ n A S dy) : Ctr l D d yX10_habit cX10_habit 3 (some .int) [.ref (D.2.2 10 0), .int x1] μ (pI (fun v μ' => v = habitF A (wtM μ) dy S x1 ∧ mqF μ μ')) := by
  have h5 := h.men
  have hdy := h.2.2.1
  refine en_X10_habit (fun Γ => bl_X10_habit_0 (by decide) ?_)
  rintro μ1 rfl
  obtain ⟨hF0, h1⟩ := h.th
  rw [h1.isn]
  refine ⟨by omega, fun z1 => ?_, fun z => ⟨by rw [habitF, if_neg z], hF0⟩⟩
  have z1 := Decidable.not_not.mp z1
  obtain ⟨m1, m2⟩ := isM_ix z1
  refine ⟨6, _, by omega, c_X10_copies (a := 1) (b := 0) (by decide) (by decide) (by decide), ?_⟩
  rintro _ rfl _ rfl
  have hF1 := hF0.tr (mcp_mq (μ := gsI μ 10 0 0 0))
  have := habitM_loop (l := l) (D := D) (d := d) (Γ := Γ) (q := fun v μ' => v = habitF A (wtM μ) dy S x1 ∧ mqF μ μ') (n := n) (A := A) (S := S) (dy := dy) (man := ix x1) (μ0 := mcp (gsI μ 10 0 0 0) 1 0) (v := habitF A (wtM μ) dy S x1) hd m2 h5 hdy (fun μ' a => ⟨rfl, hF1.tr a⟩) 100 0 _ (by omega) mqF.rf (h1.mq mcp_mq) (mcp_wM h1.1) (by rw [wtM.mq hF1, habitF, if_pos z1])
  rw [← m1] at this
  exact this
end Q1M
