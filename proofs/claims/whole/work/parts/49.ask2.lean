/-! moves, breaks -/
noncomputable def movW (A : wEnv) (wet : Int32) (dy : Nat) (S : pplS) (man m g : Nat) : Int32 := runF A wet m dy (setS S man 0 (nI g)) man 5 - S man 5
noncomputable def movL (A : wEnv) (wet : Int32) (dy : Nat) (S : pplS) (man m : Nat) : Nat → Nat → Int32 → Int32 → Int32 × Int32
  | 0, _, b, mo => (b, mo)
  | c + 1, g, b, mo => if movW A wet dy S man m g ≤ mo then movL A wet dy S man m c (g + 1) b mo else movL A wet dy S man m c (g + 1) (nI g) (movW A wet dy S man m g)
noncomputable def movesF (A : wEnv) (wet : Int32) (dy : Nat) (S : pplS) (x1 x2 x3 : Int32) : Int32 := if isM (eMen A) x1 ∧ inR x2 1 60 ∧ inR x3 0 1 then (if x3 = 0 then (movL A wet dy S (ix x1) (ix x2) 100 0 0 (-1)).1 else (movL A wet dy S (ix x1) (ix x2) 100 0 0 (-1)).2) else -1
noncomputable def brkS (A : wEnv) (wet : Int32) (dy : Nat) (S : pplS) (man : Nat) : pplS := setS (runF A wet 1 dy (setS S man 10 0)) man 10 (S man 10)
noncomputable def breaksF (A : wEnv) (wet : Int32) (dy : Nat) (S : pplS) (x1 x2 : Int32) : Int32 := if isM (eMen A) x1 ∧ inR x2 1 60 then imax 0 (runF A wet (ix x2) dy S (ix x1) 5 - runF A wet (ix x2 - 1) (dy + 1) (brkS A wet dy S (ix x1)) (ix x1) 5) else -1
theorem nI_dec {x : Int32} {k : Nat} (h : x = nI k) (h0 : 0 < k) (hk : k < 2 ^ 31) : x - 1 = nI (k - 1) := by
  apply Int32.toInt_inj.mp
  rw [h, nI_sub1 hk, nI_toInt (by omega)]
  omega
section Q2
variable {l : Launch} {D : gD} {d : Nat} {μ : gMem} {t n dy : Nat} {A : wEnv} {S : pplS} {x1 x2 x3 : Int32}
theorem movesC_loop {Γ : gC} {q : Int32 → gMem → Prop} {man m : Nat} {μ0 : gMem} {x3 : Int32} {v : Int32 × Int32} (hd : 7 ≤ d) (hm : man < eMen A) (h5 : eMen A ≤ 5) (hmm : m ≤ 60) (hdy : dy ≤ 9900) (hq : ∀ μ', cqF μ0 μ' → jk μ' → q (if x3 = 0 then v.1 else v.2) μ') :
    ∀ (c g : Nat) (μ : gMem) (b mo : Int32), g + c = 100 → cqF μ0 μ → nC μ t n A S dy → movL A (wtC μ0 t) dy S man m c g b mo = v → pt_X9_moves_1 l D d q Γ 0 (nI man) (nI m) x3 b mo (nI g) μ := by
  have e99 : (99 : Int32) = nI 99 := rfl
  intro c
  induction c with
  | zero =>
    intro g μ b mo hg hF hn hv
    refine bl_X9_moves_1 (by decide) ⟨fun _ => ⟨fun z => ?_, fun z => ?_⟩, fun z => ?_⟩
    · have := hq μ hF hn.jk
      rw [if_neg z, ← hv] at this
      exact this
    · have := hq μ hF hn.jk
      rw [if_pos z, ← hv] at this
      exact this
    · exfalso
      rw [e99, i32_lt, nI_toInt (by omega), nI_toInt (by omega)] at z
      omega
  | succ c ih =>
    intro g μ b mo hg hF hn hv
    refine bl_X9_moves_1 (by decide) ⟨fun z => ?_, fun _ => ⟨6, _, by omega, k_lookAhead rfl (by omega) hn hm, ?_⟩⟩
    · exfalso
      rw [e99, i32_lt, nI_toInt (by omega), nI_toInt (by omega)] at z
      omega
    · rintro r μ1 _ ⟨rfl, hF1, hn1, hl1⟩ μ2 e2
      have hF2 : cqF μ1 μ2 := by rw [e2]; exact cqF.rf.put (by omega)
      have hl2 : lkC μ2 t n A (μ.1 2 t 8) man (setS S man 0 (nI g)) dy := by rw [e2]; exact hl1.set hm h5 (Or.inl ⟨rfl, by rw [nI_toInt (by omega)]; omega, by rw [nI_toInt (by omega)]; omega⟩)
      have hn2 := hn1.cq hF2 hl2.jk
      refine ⟨6, _, by omega, k_pass (m := m) rfl (by omega) hn2 hm hl2 hn.nobh (by omega), ?_⟩
      rintro μ3 ⟨hF3, hn3, hl3⟩
      have hFF := hF.tr (hF1.tr (hF2.tr hF3))
      rw [wtC.cq (hF.tr (hF1.tr hF2))] at hl3
      refine ⟨man, by omega, rfl, ?_⟩
      rw [hl3.at hm h5 (by omega), Nat.mul_zero, Nat.zero_add, hn3.row (by omega)]
      rintro _ rfl
      have hw : runF A (wtC μ0 t) m dy (setS S man 0 (nI g)) man 5 - S man 5 = movW A (wtC μ0 t) dy S man m g := rfl
      rw [hw]
      simp only [movL] at hv
      refine ⟨fun z => bl_X9_moves_2 (by decide) ?_, fun z => ?_⟩
      · rintro _ rfl
        rw [nI_1]
        rw [if_pos z] at hv
        exact ih (g + 1) μ3 b mo (by omega) hFF hn3 hv
      · rintro _ rfl _ rfl
        refine bl_X9_moves_2 (by decide) ?_
        rintro _ rfl
        rw [nI_1]
        rw [if_neg z] at hv
        exact ih (g + 1) μ3 _ _ (by omega) hFF hn3 hv
theorem c_X9_moves (hd : 7 ≤ d) (h : nC μ t n A S dy) : Ctr l D d yX9_moves cX9_moves 9 (some .int) [.ref (D.2.2 9 0), .int x1, .int x2, .int x3] μ (pI (fun v μ' => v = movesF A (wtC μ t) dy S x1 x2 x3 ∧ cqF μ μ' ∧ jk μ')) := by
  have h5 := h.men
  have hdy := h.2.2.2.2.1
  refine en_X9_moves (fun Γ => bl_X9_moves_0 (by decide) ?_)
  rw [h.1, h.iw, iw_lit (x := x2) (za := 1) (zb := 60) (by decide) (by decide), iw_lit (x := x3) (za := 0) (zb := 1) (by decide) (by decide)]
  refine ⟨by omega, h.2.1, fun z => ⟨by rw [movesF, if_neg (fun w => z w.1)], cqF.rf, h.jk⟩, fun z1 => ⟨by omega, fun z => ⟨by rw [movesF, if_neg (fun w => z w.2.1)], cqF.rf, h.jk⟩, fun z2 => ⟨by omega, fun z3 => ?_, fun z => ⟨by rw [movesF, if_neg (fun w => z w.2.2)], cqF.rf, h.jk⟩⟩⟩⟩
  have z1 := Decidable.not_not.mp z1
  have z2 := Decidable.not_not.mp z2
  have z3 := Decidable.not_not.mp z3
  obtain ⟨m1, m2⟩ := isM_ix z1
  obtain ⟨n1, n2⟩ := inR_ix (b := 60) (x := x2) ⟨by omega, z2.2⟩
  rintro _ rfl _ rfl _ rfl
  have := movesC_loop (l := l) (D := D) (d := d) (Γ := Γ) (q := fun v μ' => v = movesF A (wtC μ t) dy S x1 x2 x3 ∧ cqF μ μ' ∧ jk μ') (t := t) (n := n) (A := A) (S := S) (dy := dy) (man := ix x1) (m := ix x2) (μ0 := μ) (x3 := x3) (v := movL A (wtC μ t) dy S (ix x1) (ix x2) 100 0 0 (-1)) hd m2 h5 n2 hdy (fun μ' a b => ⟨(if_pos (c := isM (eMen A) x1 ∧ inR x2 1 60 ∧ inR x3 0 1) ⟨z1, z2, z3⟩).symm, a, b⟩) 100 0 μ 0 (-1) (by omega) cqF.rf h rfl
  rw [← n1, ← m1] at this
  exact this
theorem c_X9_breaks (hd : 7 ≤ d) (h : nC μ t n A S dy) : Ctr l D d yX9_breaks cX9_breaks 5 (some .int) [.ref (D.2.2 9 0), .int x1, .int x2] μ (pI (fun v μ' => v = breaksF A (wtC μ t) dy S x1 x2 ∧ cqF μ μ' ∧ jk μ')) := by
  have h5 := h.men
  have hdy := h.2.2.2.2.1
  have hbs := h.2.2.1.2.2.2.2.2.1.2.2.2
  refine en_X9_breaks (fun Γ => bl_X9_breaks_0 (by decide) ?_)
  rw [h.1, h.iw, iw_lit (x := x2) (za := 1) (zb := 60) (by decide) (by decide)]
  refine ⟨by omega, h.2.1, fun z => ⟨by rw [breaksF, if_neg (fun w => z w.1)], cqF.rf, h.jk⟩, fun z1 => ⟨by omega, fun z2 => ?_, fun z => ⟨by rw [breaksF, if_neg (fun w => z w.2)], cqF.rf, h.jk⟩⟩⟩
  have z1 := Decidable.not_not.mp z1
  have z2 := Decidable.not_not.mp z2
  obtain ⟨m1, m2⟩ := isM_ix z1
  obtain ⟨n1, n2⟩ := inR_ix (b := 60) (x := x2) ⟨by omega, z2.2⟩
  have n0 : 0 < ix x2 := by have := z2.1; unfold ix; omega
  refine ⟨6, _, by omega, k_lookAhead m1 (by omega) h m2, ?_⟩
  rintro v μ1 _ ⟨rfl, hF1, hn1, hl1⟩
  refine ⟨6, _, by omega, k_pass n1 (by omega) hn1 m2 hl1 h.nobh (by omega), ?_⟩
  rintro μ2 ⟨hF2, hn2, hl2⟩
  rw [wtC.cq hF1] at hl2
  rw [hl2.at m2 h5 (by omega)]
  rintro _ rfl
  refine ⟨6, _, by omega, k_lookAhead m1 (by omega) hn2 m2, ?_⟩
  rintro v μ3 _ ⟨rfl, hF3, hn3, hl3⟩ μ4 e4
  have hF4 : cqF μ3 μ4 := by rw [e4]; exact cqF.rf.put (by omega)
  have hl4 : lkC μ4 t n A (μ2.1 2 t 8) (ix x1) (setS S (ix x1) 10 0) dy := by rw [e4]; exact hl3.set m2 h5 (Or.inr ⟨rfl, Or.inl rfl⟩)
  have hn4 := hn3.cq hF4 hl4.jk
  refine ⟨6, _, by omega, k_pass (m := 1) rfl (by omega) hn4 m2 hl4 hn2.nobh (by omega), ?_⟩
  rintro μ5 ⟨hF5, hn5, hl5⟩
  have hFF := hF1.tr (hF2.tr (hF3.tr hF4))
  rw [wtC.cq hFF] at hl5
  have erow : μ5.1 4 (5 * 0 + ix x1) = S (ix x1) := by rw [Nat.mul_zero, Nat.zero_add, hn5.row (by omega)]
  refine ⟨ix x1, by omega, m1, ?_⟩
  rw [erow]
  refine ⟨hbs _ (by omega), ?_⟩
  rintro μ6 e6
  have hF6 : cqF μ5 μ6 := by rw [e6]; exact cqF.rf.put (by omega)
  have hl6 : lkC μ6 t n A (μ2.1 2 t 8) (ix x1) (brkS A (wtC μ t) dy S (ix x1)) (dy + 1) := by rw [e6]; exact hl5.set m2 h5 (Or.inr ⟨rfl, hbs _ (by omega)⟩)
  have hn6 := hn5.cq hF6 hl6.jk
  refine ⟨6, _, by omega, k_pass (nI_dec n1 n0 (by omega)) (by omega) hn6 m2 hl6 hn2.nobh (by omega), ?_⟩
  rintro μ7 ⟨hF7, hn7, hl7⟩
  rw [wtC.cq (hFF.tr (hF5.tr hF6))] at hl7
  refine ⟨by omega, ?_, hFF.tr (hF5.tr (hF6.tr hF7)), hl7.jk⟩
  rw [hl7.at m2 h5 (by omega), breaksF, if_pos ⟨z1, z2⟩]
end Q2
section Q2M
variable {l : Launch} {D : gD} {d : Nat} {μ : gMem} {n dy : Nat} {A : wEnv} {S : pplS} {x1 x2 x3 : Int32}
theorem okS_goal {e : Nat} {man g : Nat} (h : okS A e S dy) (hm : man < eMen A) (hg : g ≤ 99) : okS A e (setS S man 0 (nI g)) dy := okS_set h (Nat.le_refl _) hm (by omega) (fun _ => by rw [nI_toInt (by omega)]; omega) (by omega) (by omega) (by omega) (by omega)
theorem okS_band {e : Nat} {man : Nat} {v : Int32} (h : okS A e S dy) (hm : man < eMen A) (hv : v = 0 ∨ v = 1) : okS A e (setS S man 10 v) dy := okS_set h (Nat.le_refl _) hm (by omega) (by omega) (by omega) (by omega) (by omega) (fun _ => hv)
theorem movesM_in {Γ : gC} {q : Int32 → gMem → Prop} {man m g e : Nat} {S1 : pplS} {μ0 : gMem} {b mo : Int32} (hd : 7 ≤ d) (hm : man < eMen A) (he : e ≤ 2000) (hmm : m ≤ 60) (hdy : dy ≤ 9900)
    (hq : ∀ μ', mqF μ0 μ' → wM μ' n 1 A e (runF A (wtM μ0) m dy S1) (dy + m) → pt_X10_moves_2 l D d q Γ 0 (nI man) (nI m) x3 b mo (nI g) (nI m) μ') :
    ∀ (c j : Nat) (μ : gMem), j + c = m → mqF μ0 μ → wM μ n 1 A e (runF A (wtM μ0) j dy S1) (dy + j) → pt_X10_moves_2 l D d q Γ 0 (nI man) (nI m) x3 b mo (nI g) (nI j) μ := by
  intro c
  induction c with
  | zero =>
    intro j μ hj hF hw
    obtain rfl : j = m := by omega
    exact hq μ hF hw
  | succ c ih =>
    intro j μ hj hF hw
    refine bl_X10_moves_2 (by decide) ⟨fun z => absurd z (nI_ge (by omega) (by omega)), fun _ => ⟨5, _, by omega, d_run (by omega) hw he (by omega), ?_⟩⟩
    rintro μ1 ⟨hF1, hw1, -⟩ _ rfl
    rw [wtM.mq hF] at hw1
    rw [nI_1]
    exact ih (j + 1) μ1 (by omega) (hF.tr hF1) hw1
theorem movesM_loop {Γ : gC} {q : Int32 → gMem → Prop} {man m : Nat} {μ0 : gMem} {v : Int32 × Int32} (hd : 7 ≤ d) (hm : man < eMen A) (h5 : eMen A ≤ 5) (hmm : m ≤ 60) (hdy : dy ≤ 9900) (hq : ∀ μ', mqF μ0 μ' → q (if x3 = 0 then v.1 else v.2) μ') :
    ∀ (c g : Nat) (μ : gMem) (b mo : Int32), g + c = 100 → mqF μ0 μ → nM μ n A S dy → movL A (wtM μ0) dy S man m c g b mo = v → pt_X10_moves_1 l D d q Γ 0 (nI man) (nI m) x3 b mo (nI g) μ := by
  have e99 : (99 : Int32) = nI 99 := rfl
  intro c
  induction c with
  | zero =>
    intro g μ b mo hg hF hn hv
    refine bl_X10_moves_1 (by decide) ⟨fun _ => ⟨fun z => ?_, fun z => ?_⟩, fun z => ?_⟩
    · have := hq μ hF
      rw [if_neg z, ← hv] at this
      exact this
    · have := hq μ hF
      rw [if_pos z, ← hv] at this
      exact this
    · exfalso
      rw [e99, i32_lt, nI_toInt (by omega), nI_toInt (by omega)] at z
      omega
  | succ c ih =>
    intro g μ b mo hg hF hn hv
    refine bl_X10_moves_1 (by decide) ⟨fun z => ?_, fun _ => ⟨6, _, by omega, c_X10_copies (a := 1) (b := 0) (by decide) (by decide) (by decide), ?_⟩⟩
    · exfalso
      rw [e99, i32_lt, nI_toInt (by omega), nI_toInt (by omega)] at z
      omega
    · rintro _ rfl
      refine ⟨5 + man, by omega, ix5c man, ?_⟩
      rintro μ2 e2 _ rfl
      have hF2 : mqF μ μ2 := by rw [e2]; exact mcp_mq.put (by omega)
      have hw2 : wM μ2 n 1 A 0 (setS S man 0 (nI g)) dy := by rw [e2]; exact wM_set (j := 0) (mcp_wM hn.1) rfl (by omega) hm (by omega) (okS_goal hn.1.2.2.2.2.2.1 hm (by omega))
      refine movesM_in (μ0 := μ2) (S1 := setS S man 0 (nI g)) hd hm (by omega) hmm hdy ?_ m 0 μ2 (by omega) mqF.rf hw2
      intro μ3 hF3 hw3
      have hFF := hF.tr (hF2.tr hF3)
      have hn3 := hn.mq (hF2.tr hF3)
      rw [wtM.mq (hF.tr hF2)] at hw3
      refine bl_X10_moves_2 (by decide) ⟨fun _ => ⟨5 + man, by omega, ix5c man, man, by omega, rfl, ?_⟩, fun z => absurd (nI_le (Nat.le_refl _) (by omega)) z⟩
      have a1 : μ3.1 745 0 (5 + man) = _ := hw3.at hm (j := 5) (by omega)
      have a2 : μ3.1 745 0 man = _ := hn3.row hm (j := 5) (by omega)
      rw [a1, a2]
      rintro _ rfl
      have hw : runF A (wtM μ0) m dy (setS S man 0 (nI g)) man 5 - S man 5 = movW A (wtM μ0) dy S man m g := rfl
      rw [hw]
      simp only [movL] at hv
      refine ⟨fun z => ?_, fun z => bl_X10_moves_3 (by decide) ?_⟩
      · rintro _ rfl _ rfl
        refine bl_X10_moves_3 (by decide) ?_
        rintro _ rfl
        rw [nI_1]
        rw [if_neg (fun w => by rw [i32_le] at w; rw [i32_lt] at z; omega)] at hv
        exact ih (g + 1) μ3 _ _ (by omega) hFF hn3 hv
      · rintro _ rfl
        rw [nI_1]
        rw [if_pos (by rw [i32_le]; rw [i32_lt] at z; omega)] at hv
        exact ih (g + 1) μ3 b mo (by omega) hFF hn3 hv
theorem c_X10_moves (hd : 7 ≤ d) (h : nM μ n A S dy) : Ctr l D d yX10_moves cX10_moves 8 (some .int) [.ref (D.2.2 10 0), .int x1, .int x2, .int x3] μ (pI (fun v μ' => v = movesF A (wtM μ) dy S x1 x2 x3 ∧ mqF μ μ')) := by
  have h5 := h.men
  have hdy := h.2.2.1
  refine en_X10_moves (fun Γ => bl_X10_moves_0 (by decide) ?_)
  rintro μ1 rfl
  obtain ⟨hF0, h1⟩ := h.th
  rw [h1.isn, ltL (z := 1) (by decide), gtL (z := 60) (by decide), lt0, leL (z := 1) (by decide)]
  refine ⟨by omega, fun z => ⟨by rw [movesF, if_neg (fun w => z w.1)], hF0⟩, fun z1 => ⟨fun z => ⟨by rw [movesF, if_neg (fun w => by have := w.2.1; omega)], hF0⟩, fun z2 => ⟨fun z => ⟨by rw [movesF, if_neg (fun w => by have := w.2.1; omega)], hF0⟩, fun z3 => ⟨fun z => ⟨by rw [movesF, if_neg (fun w => by have := w.2.2; omega)], hF0⟩, fun z4 => ⟨fun z5 => ?_, fun z => ⟨by rw [movesF, if_neg (fun w => by have := w.2.2; omega)], hF0⟩⟩⟩⟩⟩⟩
  have z1 := Decidable.not_not.mp z1
  have y2 : inR x2 1 60 := by omega
  have y3 : inR x3 0 1 := by omega
  obtain ⟨m1, m2⟩ := isM_ix z1
  obtain ⟨n1, n2⟩ := inR_ix (b := 60) (x := x2) ⟨by omega, y2.2⟩
  rintro _ rfl _ rfl _ rfl
  have := movesM_loop (l := l) (D := D) (d := d) (Γ := Γ) (q := fun v μ' => v = movesF A (wtM μ) dy S x1 x2 x3 ∧ mqF μ μ') (n := n) (A := A) (S := S) (dy := dy) (man := ix x1) (m := ix x2) (μ0 := gsI μ 10 0 0 0) (x3 := x3) (v := movL A (wtM μ) dy S (ix x1) (ix x2) 100 0 0 (-1)) hd m2 h5 n2 hdy (fun μ' a => ⟨(if_pos (c := isM (eMen A) x1 ∧ inR x2 1 60 ∧ inR x3 0 1) ⟨z1, y2, y3⟩).symm, hF0.tr a⟩) 100 0 _ 0 (-1) (by omega) mqF.rf h1 (by rw [wtM.mq hF0])
  rw [← n1, ← m1] at this
  exact this
theorem breaksM_loop {Γ : gC} {q : Int32 → gMem → Prop} {man m e dy1 : Nat} {S1 : pplS} {μ0 : gMem} {x : Int32} (hd : 7 ≤ d) (hm : man < eMen A) (h5 : eMen A ≤ 5) (he : e ≤ 2000) (hmm : m ≤ 60) (hdy : dy1 ≤ 9910) (h0 : 0 < m)
    (hq : ∀ μ', mqF μ0 μ' → q (imax 0 (x - runF A (wtM μ0) (m - 1) dy1 S1 man 5)) μ') :
    ∀ (c j : Nat) (μ : gMem), j + c + 1 = m → mqF μ0 μ → wM μ n 1 A e (runF A (wtM μ0) j dy1 S1) (dy1 + j) → pt_X10_breaks_1 l D d q Γ 0 (nI man) (nI m) x (nI (j + 1)) μ := by
  intro c
  induction c with
  | zero =>
    intro j μ hj hF hw
    refine bl_X10_breaks_1 (by decide) ⟨fun _ => ⟨5 + man, by omega, ix5c man, by omega, ?_⟩, fun z => absurd (nI_le (by omega) (by omega)) z⟩
    have a1 : μ.1 745 0 (5 + man) = _ := hw.at hm (j := 5) (by omega)
    rw [a1, show j = m - 1 by omega]
    exact hq μ hF
  | succ c ih =>
    intro j μ hj hF hw
    refine bl_X10_breaks_1 (by decide) ⟨fun z => absurd z (nI_ge (by omega) (by omega)), fun _ => ⟨5, _, by omega, d_run (by omega) hw he (by omega), ?_⟩⟩
    rintro μ1 ⟨hF1, hw1, -⟩ _ rfl
    rw [wtM.mq hF] at hw1
    rw [nI_1]
    exact ih (j + 1) μ1 (by omega) (hF.tr hF1) hw1
theorem c_X10_breaks (hd : 7 ≤ d) (h : nM μ n A S dy) : Ctr l D d yX10_breaks cX10_breaks 5 (some .int) [.ref (D.2.2 10 0), .int x1, .int x2] μ (pI (fun v μ' => v = breaksF A (wtM μ) dy S x1 x2 ∧ mqF μ μ')) := by
  have h5 := h.men
  have hdy := h.2.2.1
  have hbs := h.1.2.2.2.2.2.1.2.2.2
  refine en_X10_breaks (fun Γ => bl_X10_breaks_0 (by decide) ?_)
  rintro μ1 rfl
  obtain ⟨hF0, h1⟩ := h.th
  rw [h1.isn, ltL (z := 1) (by decide), leL (z := 60) (by decide)]
  refine ⟨by omega, fun z => ⟨by rw [breaksF, if_neg (fun w => z w.1)], hF0⟩, fun z1 => ⟨fun z => ⟨by rw [breaksF, if_neg (fun w => by have := w.2; omega)], hF0⟩, fun z2 => ⟨fun z3 => ?_, fun z => ⟨by rw [breaksF, if_neg (fun w => by have := w.2; omega)], hF0⟩⟩⟩⟩
  have z1 := Decidable.not_not.mp z1
  have y2 : inR x2 1 60 := by omega
  obtain ⟨m1, m2⟩ := isM_ix z1
  obtain ⟨n1, n2⟩ := inR_ix (b := 60) (x := x2) ⟨by omega, y2.2⟩
  have n0 : 0 < ix x2 := by have := y2.1; unfold ix; omega
  have ei : (5 : Int32) + x1 = nI (5 + ix x1) := by
    have := ix5c (ix x1)
    rw [← m1] at this
    exact this
  refine ⟨6, _, by omega, c_X10_runs n1 (by omega) h1.1 (by omega) (by omega) (by omega), ?_⟩
  rintro μ2 ⟨hF2, hw2⟩
  rw [wtM.mq hF0] at hw2
  have hn2 := h1.mq hF2
  refine ⟨_, by omega, ei, ?_⟩
  have a1 : μ2.1 745 0 (5 + ix x1) = _ := hw2.at m2 (j := 5) (by omega)
  rw [a1]
  rintro _ rfl
  refine ⟨6, _, by omega, c_X10_copies (a := 1) (b := 0) (by decide) (by decide) (by decide), ?_⟩
  rintro _ rfl
  refine ⟨_, by omega, ei, ?_⟩
  rintro μ3 e3
  have hF3 : mqF μ2 μ3 := by rw [e3]; exact mcp_mq.put (by omega)
  have h51 : ¬ (mcp μ2 1 0).1 10 0 51 = 3 := by rw [mcp_off (by omega), hn2.2.2.2.1]; decide
  have hw3 : wM μ3 n 1 A 0 (setS S (ix x1) 10 0) dy := by rw [e3]; exact wM_set (j := 10) (mcp_wM hn2.1) rfl (by omega) m2 (fun _ => ⟨h51, Or.inl rfl⟩) (okS_band hn2.1.2.2.2.2.2.1 m2 (Or.inl rfl))
  have hFF := hF0.tr (hF2.tr hF3)
  refine ⟨5, _, by omega, d_run (by omega) hw3 (by omega) (by omega), ?_⟩
  rintro μ4 ⟨hF4, hw4, -⟩
  rw [wtM.mq hFF] at hw4
  have hn4 := h.mq (hFF.tr hF4)
  refine ⟨ix x1, by omega, m1, _, by omega, ei, ?_⟩
  have a2 : μ4.1 747 0 (ix x1) = S (ix x1) 10 := hn4.row m2 (j := 10) (by omega)
  rw [a2]
  rintro μ5 e5 _ rfl
  have hF5 : mqF μ4 μ5 := by rw [e5]; exact mqF.rf.put (by omega)
  have hw5 : wM μ5 n 1 A 0 (brkS A (wtM μ) dy S (ix x1)) (dy + 1) := by rw [e5]; exact wM_set (j := 10) hw4 rfl (by omega) m2 (fun _ => ⟨by rw [hn4.2.2.2.1]; decide, hbs _ (by omega)⟩) (okS_band hw4.2.2.2.2.2.1 m2 (hbs _ (by omega)))
  have hF6 := hFF.tr (hF4.tr hF5)
  have := breaksM_loop (l := l) (D := D) (d := d) (Γ := Γ) (q := fun v μ' => v = breaksF A (wtM μ) dy S x1 x2 ∧ mqF μ μ') (n := n) (A := A) (dy1 := dy + 1) (S1 := brkS A (wtM μ) dy S (ix x1)) (man := ix x1) (m := ix x2) (e := 0) (μ0 := μ5) (x := runF A (wtM μ) (ix x2) dy S (ix x1) 5) hd m2 h5 (by omega) n2 (by omega) n0 (fun μ' a => ⟨by rw [wtM.mq hF6, breaksF, if_pos ⟨z1, y2⟩], hF6.tr a⟩) (ix x2 - 1) 0 μ5 (by omega) mqF.rf hw5
  rw [← n1, ← m1] at this
  exact this
end Q2M
