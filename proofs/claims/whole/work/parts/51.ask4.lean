/-! rests, rest: two who choose how far to go -/
noncomputable def fuS (S : pplS) (one other i : Nat) : pplS := setS (setS S one 9 (S one 9 + nI (10 * (i / 5)))) other 9 (S other 9 + nI (10 * (i % 5)))
noncomputable def fuF (A : wEnv) (wet : Int32) (dy : Nat) (S : pplS) (one other i : Nat) : Int32 := nxt A wet dy (fuS S one other i)
noncomputable def gnF (pot : Int32) (fu : Nat → Int32) (m c i : Nat) : Int32 := (if fu i = nI m then pot else 0) - 3 * nI c
abbrev rstP (pot : Int32) (fu : Nat → Int32) (one other i : Nat) : Prop := ∀ k, k < 5 → ¬ gnF pot fu one (i / 5) i < gnF pot fu one k (k * 5 + i % 5) ∧ ¬ gnF pot fu other (i % 5) i < gnF pot fu other k (i / 5 * 5 + k)
noncomputable def rofL (B : Nat → Prop) [DecidablePred B] (x : Int32) : Nat → Nat → Nat → Int32
  | 0, _, n => if x = -1 then nI n else -2
  | c + 1, i, n => if B i then (if nI n = x then ((10 : Int32) * (nI i / (5 : Int32))) + (nI i - nI i / (5 : Int32) * (5 : Int32)) else rofL B x c (i + 1) (n + 1)) else rofL B x c (i + 1) n
noncomputable def rstG (A : wEnv) (wet : Int32) (dy : Nat) (S : pplS) (x1 x2 x : Int32) : Int32 := rofL (rstP (ePot A) (fuF A wet dy S (ix x1) (ix x2)) (ix x1) (ix x2)) x 25 0 0
noncomputable def restsF (A : wEnv) (wet : Int32) (dy : Nat) (S : pplS) (x1 x2 : Int32) : Int32 := if isM (eMen A) x1 ∧ isM (eMen A) x2 ∧ ¬ x1 = x2 then rstG A wet dy S x1 x2 (-1) else -1
noncomputable def restF (A : wEnv) (wet : Int32) (dy : Nat) (S : pplS) (x1 x2 x3 : Int32) : Int32 := if isM (eMen A) x1 ∧ isM (eMen A) x2 ∧ ¬ x1 = x2 ∧ 0 ≤ x3.toInt then rstG A wet dy S x1 x2 x3 else -1
theorem d5 {i : Nat} (h : i < 2 ^ 31) : nI i / (5 : Int32) = nI (i / 5) := pk_div (d := 5) h (by omega) (by omega)
theorem r5 {i : Nat} (h : i < 2 ^ 31) : nI i - nI i / (5 : Int32) * (5 : Int32) = nI (i % 5) := pk_rem (d := 5) h (by omega) (by omega)
theorem t10 (a : Nat) : (10 : Int32) * nI a = nI (10 * a) := pk_mul 10 a
theorem okS_lent {A : wEnv} {dy man k e : Nat} {S : pplS} (h : okS A e S dy) (hm : man < eMen A) (h9 : (S man 9).toInt ≤ 999) (hk : k ≤ 40) : okS A e (setS S man 9 (S man 9 + nI k)) dy := by
  have hp := (h.1 man hm).1.2.2
  refine okS_set h (Nat.le_refl _) hm (by omega) (by omega) (fun _ => ?_) (by omega) (by omega) (by omega)
  rw [fb_addI (by rw [nI_toInt (by omega)]; omega) (by rw [nI_toInt (by omega)]; omega), nI_toInt (by omega)]
  omega
theorem wtC.cw {μ μ' : gMem} {t : Nat} (hF : cwF μ μ') : wtC μ' t = wtC μ t := by
  unfold wtC
  rw [hF.g (k := 7) (j := t) (by omega)]
section Q4
variable {l : Launch} {D : gD} {d : Nat} {μ : gMem} {t n dy : Nat} {A : wEnv} {S : pplS} {x1 x2 x3 : Int32}
theorem further_loop {Γ : gC} {q : gMem → Prop} {one other : Nat} {μ0 : gMem} (hd : 7 ≤ d) (h1 : one < eMen A) (h2 : other < eMen A) (hne : ¬ one = other) (hq : ∀ μ', cwF μ0 μ' → nC μ' t n A S dy → (∀ j, j < 25 → μ'.1 649 0 j = fuF A (wtC μ0 t) dy S one other j) → q μ') :
    ∀ (c i : Nat) (μ : gMem), i + c = 25 → cwF μ0 μ → nC μ t n A S dy → (∀ j, j < i → μ.1 649 0 j = fuF A (wtC μ0 t) dy S one other j) → pt_X9_chooseFurther_1 l D d q Γ 0 (nI one) (nI other) (nI i) μ := by
  intro c
  induction c with
  | zero =>
    intro i μ hi hF hn hf
    obtain rfl : i = 25 := by omega
    exact bl_X9_chooseFurther_1 (by decide) ⟨fun _ => hq μ hF hn hf, fun z => absurd (nI_le (Nat.le_refl _) (by omega)) z⟩
  | succ c ih =>
    intro i μ hi hF hn hf
    have h5 := hn.men
    have hA := hn.2.2.1.2.1
    have hdy := hn.2.2.2.2.1
    have h9 := hn.2.2.2.2.2
    have hdt := dtp_pos (A := A) (dy := dy) hA.2.1
    have hb2 := hA.2.2.1
    refine bl_X9_chooseFurther_1 (by decide) ⟨fun z => absurd z (nI_ge (by omega) (by omega)), fun _ => ⟨6, _, by omega, c_X9_lookAtAll (by omega) hn, ?_⟩⟩
    rintro μ1 ⟨hF1, hn1, hw1, -, -, -⟩
    refine ⟨one, by omega, rfl, ?_⟩
    have er : μ1.1 4 (5 * 2 + one) 9 = S one 9 := by rw [hw1.2.2.2.2.1.1 one (by omega)]
    rw [er, r5 (by omega), d5 (by omega), t10, t10]
    have ok1 := okS_lent (k := 10 * (i / 5)) hw1.2.2.2.2.2.1 h1 (h9 one h1) (by omega)
    rintro μ2 e2
    have hF2 : cqF μ1 μ2 := by rw [e2]; exact cqF.rf.put (by omega)
    have hw2 : wC μ2 t n 2 A 0 (setS S one 9 (S one 9 + nI (10 * (i / 5)))) dy := by rw [e2]; exact wC_set hw1 (by omega) (by omega) ok1
    have hn2 := hn1.cq hF2 hw2.2.2.2.2.1.2
    refine ⟨other, by omega, rfl, ?_⟩
    have eo : setS S one 9 (S one 9 + nI (10 * (i / 5))) other 9 = S other 9 := setS_o (fun z => hne z.1.symm)
    have er2 : μ2.1 4 (5 * 2 + other) 9 = S other 9 := by rw [hw2.2.2.2.2.1.1 other (by omega)]; exact eo
    rw [er2]
    have ok2 := okS_lent (k := 10 * (i % 5)) ok1 h2 (by rw [eo]; exact h9 other h2) (by omega)
    rw [eo] at ok2
    rintro μ3 e3
    have hF3 : cqF μ2 μ3 := by rw [e3]; exact cqF.rf.put (by omega)
    have hw3 : wC μ3 t n 2 A 0 (fuS S one other i) dy := by rw [e3]; exact wC_set hw2 (by omega) (by omega) ok2
    have hn3 := hn2.cq hF3 hw3.2.2.2.2.1.2
    refine ⟨0, _, by omega, c_X9_daysToPot hn3, ?_⟩
    rintro v μ4 ⟨rfl, rfl⟩
    refine ⟨6, _, by omega, c_X9_passAsItGoes rfl (by omega) hn3 hw3 (by omega) (by omega), ?_⟩
    rintro μ5 ⟨hF5, hn5, -, h4⟩
    have hG := hF1.tr (hF2.tr (hF3.tr hF5))
    refine ⟨i, by omega, rfl, ?_⟩
    rintro μ6 e6 _ rfl
    have hF6 : cwF μ5 μ6 := by rw [e6]; exact cwF.rf.put (by omega)
    have hj6 : jk μ6 := hn5.jk.of (fun i => by rw [e6, gsI_off (by omega)]) (fun i => by rw [e6, gsI_off (by omega)])
    rw [nI_1]
    refine ih (i + 1) μ6 (by omega) (hF.tr (hG.w.tr hF6)) (hn5.cw hF6 hj6) (fun j hj => ?_)
    by_cases ej : j = i
    · subst ej
      rw [e6, gsI_s, h4, winF_nxt hA.2.1, wtC.cw (hF.tr (hF1.tr (hF2.tr hF3)).w)]
      rfl
    · rw [e6, gsI_at, if_neg (by omega), hG.1 649 0 (by omega) (by omega)]
      exact hf j (by omega)
theorem c_X9_chooseFurther {one other : Nat} (e1 : x1 = nI one) (e2 : x2 = nI other) (hd : 7 ≤ d) (h : nC μ t n A S dy) (h1 : one < eMen A) (h2 : other < eMen A) (hne : ¬ one = other) : Ctr l D d yX9_chooseFurther cX9_chooseFurther 4 none [.ref (D.2.2 9 0), .int x1, .int x2] μ (pV (fun μ' => cwF μ μ' ∧ nC μ' t n A S dy ∧ ∀ j, j < 25 → μ'.1 649 0 j = fuF A (wtC μ t) dy S one other j)) := by
  subst e1 e2
  refine en_X9_chooseFurther (fun Γ => bl_X9_chooseFurther_0 (by decide) ?_)
  rintro _ rfl
  exact further_loop (μ0 := μ) hd h1 h2 hne (fun μ' a b c => ⟨a, b, c⟩) 25 0 μ (by omega) cwF.rf h (fun j hj => by omega)
theorem c_X9_gain {m c i : Nat} {fu : Nat → Int32} (e1 : x1 = nI m) (e2 : x2 = nI c) (e3 : x3 = nI i) (h : nC μ t n A S dy) (hi : i < 25) (hf : ∀ j, j < 25 → μ.1 649 0 j = fu j) : Ctr l D d yX9_gain cX9_gain 4 (some .int) [.ref (D.2.2 9 0), .int x1, .int x2, .int x3] μ (pI (fun v μ' => v = gnF (ePot A) fu m c i ∧ μ' = μ)) := by
  subst e1 e2 e3
  refine en_X9_gain (fun Γ => bl_X9_gain_0 (by decide) ⟨i, hi, rfl, ?_⟩)
  rw [hf i hi, h.1, h.2.2.1.1.2.2.2.2.2.1.2.2]
  refine ⟨fun z => bl_X9_gain_1 ⟨?_, rfl⟩, fun z => ⟨h.2.1, bl_X9_gain_1 ⟨?_, rfl⟩⟩⟩
  · rw [gnF, if_neg z]
  · rw [gnF, if_pos z]
theorem isRestC_loop {Γ : gC} {q : Int32 → gMem → Prop} {one other i : Nat} {fu : Nat → Int32} (hd : 1 ≤ d) (h : nC μ t n A S dy) (hi : i < 25) (hf : ∀ j, j < 25 → μ.1 649 0 j = fu j) (hq : q (bI (rstP (ePot A) fu one other i)) μ) :
    ∀ (c k : Nat), k + c = 5 → (∀ j, j < k → ¬ gnF (ePot A) fu one (i / 5) i < gnF (ePot A) fu one j (j * 5 + i % 5) ∧ ¬ gnF (ePot A) fu other (i % 5) i < gnF (ePot A) fu other j (i / 5 * 5 + j)) → pt_X9_isRest_1 l D d q Γ 0 (nI one) (nI other) (nI i) (nI (i / 5)) (nI (i % 5)) (nI k) μ := by
  have e5 : (5 : Int32) = nI 5 := rfl
  intro c
  induction c with
  | zero =>
    intro k hk hj
    obtain rfl : k = 5 := by omega
    refine bl_X9_isRest_1 (by decide) ⟨fun _ => ?_, fun z => absurd (by rw [e5]; exact nI_le (Nat.le_refl _) (by omega)) z⟩
    rw [bI, if_pos (show rstP (ePot A) fu one other i from hj)] at hq
    exact hq
  | succ c ih =>
    intro k hk hj
    refine bl_X9_isRest_1 (by decide) ⟨fun z => absurd z (by rw [e5]; exact nI_ge (by omega) (by omega)), fun _ => ⟨0, _, by omega, c_X9_gain (i := k * 5 + i % 5) rfl rfl (by rw [e5, pk_mul, nI_add]) h (by omega) hf, ?_⟩⟩
    rintro v1 μ1 ⟨rfl, rfl⟩
    refine ⟨0, _, by omega, c_X9_gain rfl rfl rfl h hi hf, ?_⟩
    rintro v2 μ2 ⟨rfl, rfl⟩
    have no : ¬ rstP (ePot A) fu one other i → q 0 μ2 := by
      intro z
      rw [bI, if_neg z] at hq
      exact hq
    refine ⟨fun z => no (fun w => (w k (by omega)).1 z), fun z => ⟨0, _, by omega, c_X9_gain (i := i / 5 * 5 + k) rfl rfl (by rw [e5, pk_mul, nI_add]) h (by omega) hf, ?_⟩⟩
    rintro v3 μ3 ⟨rfl, rfl⟩
    refine ⟨0, _, by omega, c_X9_gain rfl rfl rfl h hi hf, ?_⟩
    rintro v4 μ4 ⟨rfl, rfl⟩
    refine ⟨fun z2 => ?_, fun z2 => no (fun w => (w k (by omega)).2 (by rw [i32_le] at z2; rw [i32_lt]; omega))⟩
    rintro _ rfl
    rw [nI_1]
    refine ih (k + 1) (by omega) (fun j hj2 => ?_)
    by_cases ej : j = k
    · subst ej
      exact ⟨z, by rw [i32_le] at z2; rw [i32_lt]; omega⟩
    · exact hj j (by omega)
theorem c_X9_isRest {one other i : Nat} {fu : Nat → Int32} (e1 : x1 = nI one) (e2 : x2 = nI other) (e3 : x3 = nI i) (hd : 1 ≤ d) (h : nC μ t n A S dy) (hi : i < 25) (hf : ∀ j, j < 25 → μ.1 649 0 j = fu j) : Ctr l D d yX9_isRest cX9_isRest 7 (some .boolean) [.ref (D.2.2 9 0), .int x1, .int x2, .int x3] μ (pI (fun v μ' => v = bI (rstP (ePot A) fu one other i) ∧ μ' = μ)) := by
  subst e1 e2 e3
  refine en_X9_isRest (fun Γ => bl_X9_isRest_0 (by decide) ?_)
  rw [r5 (by omega), d5 (by omega)]
  rintro _ rfl _ rfl _ rfl
  exact isRestC_loop hd h hi hf ⟨rfl, rfl⟩ 5 0 (by omega) (fun j hj => by omega)
theorem restsC_loop {Γ : gC} {q : Int32 → gMem → Prop} {one other : Nat} {fu : Nat → Int32} (hd : 2 ≤ d) (h : nC μ t n A S dy) (hf : ∀ j, j < 25 → μ.1 649 0 j = fu j) {v : Int32} (hq : q v μ) :
    ∀ (c i m : Nat), i + c = 25 → m ≤ i → rofL (rstP (ePot A) fu one other) (-1) c i m = v → pt_X9_rests_1 l D d q Γ 0 (nI one) (nI other) (nI m) (nI i) μ := by
  intro c
  induction c with
  | zero =>
    intro i m hi hm hv
    obtain rfl : i = 25 := by omega
    refine bl_X9_rests_1 (by decide) ⟨fun _ => ?_, fun z => absurd (nI_le (Nat.le_refl _) (by omega)) z⟩
    rw [rofL, if_pos rfl] at hv
    rw [← hv] at hq
    exact hq
  | succ c ih =>
    intro i m hi hm hv
    refine bl_X9_rests_1 (by decide) ⟨fun z => absurd z (nI_ge (by omega) (by omega)), fun _ => ⟨1, _, by omega, c_X9_isRest rfl rfl rfl (by omega) h (by omega) hf, ?_⟩⟩
    rintro v1 μ1 ⟨rfl, rfl⟩
    rw [rofL] at hv
    by_cases hB : rstP (ePot A) fu one other i
    · rw [if_pos hB, if_neg (nI_nm1 (by omega))] at hv
      rw [bI, if_pos hB]
      refine ⟨fun z => absurd z (by decide), fun _ => ?_⟩
      rintro _ rfl
      refine bl_X9_rests_2 (by decide) ?_
      rintro _ rfl
      rw [nI_1, nI_1]
      exact ih (i + 1) (m + 1) (by omega) (by omega) hv
    · rw [if_neg hB] at hv
      rw [bI, if_neg hB]
      refine ⟨fun _ => bl_X9_rests_2 (by decide) ?_, fun z => absurd rfl z⟩
      rintro _ rfl
      rw [nI_1]
      exact ih (i + 1) m (by omega) (by omega) hv
theorem restC_loop {Γ : gC} {q : Int32 → gMem → Prop} {one other : Nat} {fu : Nat → Int32} (hd : 2 ≤ d) (h : nC μ t n A S dy) (hf : ∀ j, j < 25 → μ.1 649 0 j = fu j) (hx : ¬ x3 = -1) {v : Int32} (hq : q v μ) :
    ∀ (c i m : Nat), i + c = 25 → m ≤ i → rofL (rstP (ePot A) fu one other) x3 c i m = v → pt_X9_rest_1 l D d q Γ 0 (nI one) (nI other) (x3 - nI m) (nI i) μ := by
  intro c
  induction c with
  | zero =>
    intro i m hi hm hv
    obtain rfl : i = 25 := by omega
    refine bl_X9_rest_1 (by decide) ⟨fun _ => ?_, fun z => absurd (nI_le (Nat.le_refl _) (by omega)) z⟩
    rw [rofL, if_neg hx] at hv
    rw [← hv] at hq
    exact hq
  | succ c ih =>
    intro i m hi hm hv
    have e0 : x3 - nI m = 0 ↔ nI m = x3 := by
      refine ⟨fun z => ?_, fun z => by rw [z]; exact Int32.sub_self _⟩
      have h := congrArg (fun y => y + nI m) z
      simp at h
      exact h.symm
    refine bl_X9_rest_1 (by decide) ⟨fun z => absurd z (nI_ge (by omega) (by omega)), fun _ => ⟨1, _, by omega, c_X9_isRest rfl rfl rfl (by omega) h (by omega) hf, ?_⟩⟩
    rintro v1 μ1 ⟨rfl, rfl⟩
    rw [e0]
    rw [rofL] at hv
    by_cases hB : rstP (ePot A) fu one other i
    · rw [if_pos hB] at hv
      rw [bI, if_pos hB]
      refine ⟨fun z => absurd z (by decide), fun _ => ⟨fun z => ?_, fun z => ?_⟩⟩
      · rw [if_neg z] at hv
        rintro _ rfl
        refine bl_X9_rest_2 (by decide) ?_
        rintro _ rfl
        rw [nI_1]
        have e1 : x3 - nI m + (-1) = x3 - nI (m + 1) := by
          rw [← nI_1, Int32.sub_eq_add_neg, Int32.sub_eq_add_neg, Int32.neg_add, Int32.sub_eq_add_neg, Int32.add_assoc]
        rw [e1]
        exact ih (i + 1) (m + 1) (by omega) (by omega) hv
      · rw [if_pos z] at hv
        rw [← hv] at hq
        exact hq
    · rw [if_neg hB] at hv
      rw [bI, if_neg hB]
      refine ⟨fun _ => bl_X9_rest_2 (by decide) ?_, fun z => absurd rfl z⟩
      rintro _ rfl
      rw [nI_1]
      exact ih (i + 1) m (by omega) (by omega) hv
theorem c_X9_rests (hd : 8 ≤ d) (h : nC μ t n A S dy) : Ctr l D d yX9_rests cX9_rests 5 (some .int) [.ref (D.2.2 9 0), .int x1, .int x2] μ (pI (fun v μ' => v = restsF A (wtC μ t) dy S x1 x2 ∧ cwF μ μ' ∧ jk μ')) := by
  refine en_X9_rests (fun Γ => bl_X9_rests_0 (by decide) ?_)
  rw [h.1, h.iw, h.iw]
  refine ⟨by omega, h.2.1, fun z => ⟨by rw [restsF, if_neg (fun w => z w.1)], cwF.rf, h.jk⟩, fun z1 => ⟨by omega, h.2.1, fun z => ⟨by rw [restsF, if_neg (fun w => z w.2.1)], cwF.rf, h.jk⟩, fun z2 => ⟨fun z3 => ?_, fun z => ⟨by rw [restsF, if_neg (fun w => w.2.2 z)], cwF.rf, h.jk⟩⟩⟩⟩
  have z1 := Decidable.not_not.mp z1
  have z2 := Decidable.not_not.mp z2
  obtain ⟨m1, m2⟩ := isM_ix z1
  obtain ⟨n1, n2⟩ := isM_ix z2
  have hne : ¬ ix x1 = ix x2 := fun w => z3 (by rw [m1, n1, w])
  refine ⟨7, _, by omega, c_X9_chooseFurther m1 n1 (by omega) h m2 n2 hne, ?_⟩
  rintro μ1 ⟨hF1, hn1, hf⟩ _ rfl _ rfl
  have := restsC_loop (l := l) (D := D) (d := d) (μ := μ1) (Γ := Γ) (q := fun v μ' => v = restsF A (wtC μ t) dy S x1 x2 ∧ cwF μ μ' ∧ jk μ') (one := ix x1) (other := ix x2) (by omega) hn1 hf (v := restsF A (wtC μ t) dy S x1 x2) ⟨rfl, hF1, hn1.jk⟩ 25 0 0 (by omega) (by omega) (by rw [restsF, if_pos ⟨z1, z2, z3⟩, rstG])
  rw [← m1, ← n1] at this
  exact this
theorem c_X9_rest (hd : 8 ≤ d) (h : nC μ t n A S dy) : Ctr l D d yX9_rest cX9_rest 6 (some .int) [.ref (D.2.2 9 0), .int x1, .int x2, .int x3] μ (pI (fun v μ' => v = restF A (wtC μ t) dy S x1 x2 x3 ∧ cwF μ μ' ∧ jk μ')) := by
  refine en_X9_rest (fun Γ => bl_X9_rest_0 (by decide) ?_)
  have le0 : 0 ≤ x3 ↔ 0 ≤ x3.toInt := by rw [i32_le, i32_0]
  rw [h.1, h.iw, h.iw, le0]
  refine ⟨by omega, h.2.1, fun z => ⟨by rw [restF, if_neg (fun w => z w.1)], cwF.rf, h.jk⟩, fun z1 => ⟨by omega, h.2.1, fun z => ⟨by rw [restF, if_neg (fun w => z w.2.1)], cwF.rf, h.jk⟩, fun z2 => ⟨fun z => ⟨by rw [restF, if_neg (fun w => w.2.2.1 z)], cwF.rf, h.jk⟩, fun z3 => ⟨fun z4 => ?_, fun z => ⟨by rw [restF, if_neg (fun w => z w.2.2.2)], cwF.rf, h.jk⟩⟩⟩⟩⟩
  have z1 := Decidable.not_not.mp z1
  have z2 := Decidable.not_not.mp z2
  obtain ⟨m1, m2⟩ := isM_ix z1
  obtain ⟨n1, n2⟩ := isM_ix z2
  have hne : ¬ ix x1 = ix x2 := fun w => z3 (by rw [m1, n1, w])
  have hx : ¬ x3 = -1 := fun w => by rw [w] at z4; exact absurd z4 (by decide)
  refine ⟨7, _, by omega, c_X9_chooseFurther m1 n1 (by omega) h m2 n2 hne, ?_⟩
  rintro μ1 ⟨hF1, hn1, hf⟩ _ e4 _ rfl
  rw [e4]
  have := restC_loop (l := l) (D := D) (d := d) (μ := μ1) (Γ := Γ) (x3 := x3) (q := fun v μ' => v = restF A (wtC μ t) dy S x1 x2 x3 ∧ cwF μ μ' ∧ jk μ') (one := ix x1) (other := ix x2) (by omega) hn1 hf hx (v := restF A (wtC μ t) dy S x1 x2 x3) ⟨rfl, hF1, hn1.jk⟩ 25 0 0 (by omega) (by omega) (by rw [restF, if_pos ⟨z1, z2, z3, z4⟩, rstG])
  rw [← m1, ← n1, nI_0, Int32.sub_zero] at this
  exact this
end Q4
section Q4M
variable {l : Launch} {D : gD} {d : Nat} {μ : gMem} {n dy : Nat} {A : wEnv} {S : pplS} {x1 x2 x3 : Int32}
theorem wtM.mv {μ μ' : gMem} (hF : mvF μ μ') : wtM μ' = wtM μ := by
  unfold wtM odM
  rw [hF.2.2.2.2.1 51 (by omega) (by omega) (by omega), hF.1 707 0 (by omega) (by omega) (by omega) (by omega) (by omega)]
theorem layFurther_loop {Γ : gC} {q : gMem → Prop} {one other : Nat} {μ0 : gMem} {fu : Nat → Int32} (hd : 7 ≤ d) (h1 : one < eMen A) (h2 : other < eMen A) (hne : ¬ one = other) (h9 : ∀ p, p < eMen A → (S p 9).toInt ≤ 999) (hfu : fu = fuF A (wtM μ0) dy S one other) (hq : ∀ μ', mvF μ0 μ' → nM μ' n A S dy → (∀ j, j < 25 → μ'.1 757 0 j = gnF (ePot A) fu one (j / 5) j ∧ μ'.1 758 0 j = gnF (ePot A) fu other (j % 5) j) → q μ') :
    ∀ (c i : Nat) (μ : gMem), i + c = 25 → mvF μ0 μ → nM μ n A S dy → (∀ j, j < i → μ.1 757 0 j = gnF (ePot A) fu one (j / 5) j ∧ μ.1 758 0 j = gnF (ePot A) fu other (j % 5) j) → pt_X10_layFurther_1 l D d q Γ 0 (nI one) (nI other) (nI i) μ := by
  have e25 : (25 : Int32) = nI 25 := rfl
  intro c
  induction c with
  | zero =>
    intro i μ hi hF hn hf
    obtain rfl : i = 25 := by omega
    exact bl_X10_layFurther_1 (by decide) ⟨fun _ => hq μ hF hn hf, fun z => absurd (by rw [e25]; exact nI_le (Nat.le_refl _) (by omega)) z⟩
  | succ c ih =>
    intro i μ hi hF hn hf
    have h5 := hn.men
    have hA := hn.1.2.1
    have hdy := hn.2.2.1
    refine bl_X10_layFurther_1 (by decide) ⟨fun z => absurd z (by rw [e25]; exact nI_ge (by omega) (by omega)), fun _ => ⟨6, _, by omega, c_X10_copies (a := 1) (b := 0) (by decide) (by decide) (by decide), ?_⟩⟩
    rintro _ rfl
    have hw1 := mcp_wM (a := 1) hn.1
    refine ⟨5 + one, by omega, ix5c one, 5 + one, by omega, ix5c one, ?_⟩
    have a1 : (mcp μ 1 0).1 748 0 (5 + one) = S one 9 := hw1.at h1 (j := 9) (by omega)
    rw [a1, r5 (by omega), d5 (by omega), t10, t10]
    have ok1 := okS_lent (k := 10 * (i / 5)) hw1.2.2.2.2.2.1 h1 (h9 one h1) (by omega)
    rintro μ2 e2
    have hF2 : mqF μ μ2 := by rw [e2]; exact mcp_mq.put (by omega)
    have hw2 : wM μ2 n 1 A 0 (setS S one 9 (S one 9 + nI (10 * (i / 5)))) dy := by rw [e2]; exact wM_set (j := 9) hw1 rfl (by omega) h1 (by omega) ok1
    have eo : setS S one 9 (S one 9 + nI (10 * (i / 5))) other 9 = S other 9 := setS_o (fun z => hne z.1.symm)
    refine ⟨5 + other, by omega, ix5c other, 5 + other, by omega, ix5c other, ?_⟩
    have a2 : μ2.1 748 0 (5 + other) = S other 9 := (hw2.at h2 (j := 9) (by omega)).trans eo
    rw [a2]
    have ok2 := okS_lent (k := 10 * (i % 5)) ok1 h2 (by rw [eo]; exact h9 other h2) (by omega)
    rw [eo] at ok2
    rintro μ3 e3
    have hF3 : mqF μ2 μ3 := by rw [e3]; exact mqF.rf.put (by omega)
    have hw3 : wM μ3 n 1 A 0 (fuS S one other i) dy := by rw [e3]; exact wM_set (j := 9) hw2 rfl (by omega) h2 (by omega) ok2
    refine ⟨6, _, by omega, c_X10_winsFrom (by omega) hw3 (by omega) (by omega) (fun dy S => wnr_ne hn.2.1 hA (by omega) _ dy S), ?_⟩
    rintro v μ4 ⟨rfl, hF4, -⟩
    have hG := hF2.tr (hF3.tr hF4)
    have ew : nxt A (wtM μ3) dy (fuS S one other i) = fu i := by
      rw [wtM.mv (hF.tr (hF2.tr hF3).v), hfu]
      rfl
    rw [ew]
    rintro _ rfl
    have hn4 := hn.mq hG
    have g7 : μ4.1 757 0 = μ.1 757 0 := hG.1 757 0 (by omega) (by omega)
    have g8 : μ4.1 758 0 = μ.1 758 0 := hG.1 758 0 (by omega) (by omega)
    have pot : ∀ μ', mvF μ4 μ' → μ'.1 707 0 3 = ePot A := fun μ' hm => (hn4.mv hm).1.1.2.2.2.2.2.1.2.2
    have fin : ∀ (μ5 : gMem) (v : Int32), mvF μ4 μ5 → v = gnF (ePot A) fu one (i / 5) i → μ5 = gsI μ4 757 0 i v → ∀ w : Int32, w = (if fu i = nI other then ePot A else 0) → pt_X10_layFurther_3 l D d q Γ 0 (nI one) (nI other) (nI i) 0 (nI i) w μ5 := by
      intro μ5 v hF5 hv e5 w hw
      refine bl_X10_layFurther_3 (by decide) (by decide) ⟨i, by omega, rfl, ?_⟩
      rw [r5 (by omega)]
      rintro μ6 e6 _ rfl
      have hF6 : mvF μ4 μ6 := by rw [e6]; exact hF5.put (by omega)
      rw [nI_1]
      refine ih (i + 1) μ6 (by omega) (hF.tr (hG.v.tr hF6)) (hn4.mv hF6) (fun j hj => ?_)
      by_cases ej : j = i
      · subst ej
        refine ⟨?_, ?_⟩
        · rw [e6, gsI_at, if_neg (by omega), e5, gsI_s]; exact hv
        · rw [e6, gsI_s, hw]; rfl
      · refine ⟨?_, ?_⟩
        · rw [e6, gsI_at, if_neg (by omega), e5, gsI_at, if_neg (by omega), g7]
          exact (hf j (by omega)).1
        · rw [e6, gsI_at, if_neg (by omega), e5, gsI_at, if_neg (by omega), g8]
          exact (hf j (by omega)).2
    have mid : ∀ w : Int32, w = (if fu i = nI one then ePot A else 0) → pt_X10_layFurther_2 l D d q Γ 0 (nI one) (nI other) (nI i) (fu i) 0 (nI i) w μ4 := by
      intro w hw
      refine bl_X10_layFurther_2 (by decide) (by decide) ⟨i, by omega, rfl, ?_⟩
      rw [d5 (by omega)]
      rintro μ5 e5
      have hF5 : mvF μ4 μ5 := by rw [e5]; exact mvF.rf.put (by omega)
      have hv : w - 3 * nI (i / 5) = gnF (ePot A) fu one (i / 5) i := by rw [hw]; rfl
      refine ⟨fun z => fin μ5 _ hF5 hv e5 _ (by rw [if_neg z]), fun z => fin μ5 _ hF5 hv e5 _ (by rw [if_pos z, pot _ hF5])⟩
    exact ⟨fun z => mid _ (by rw [if_neg z]), fun z => mid _ (by rw [if_pos z, pot _ mvF.rf])⟩
theorem c_X10_layFurther {one other : Nat} (e1 : x1 = nI one) (e2 : x2 = nI other) (hd : 7 ≤ d) (h : nM μ n A S dy) (h1 : one < eMen A) (h2 : other < eMen A) (hne : ¬ one = other) (h9 : ∀ p, p < eMen A → (S p 9).toInt ≤ 999) : Ctr l D d yX10_layFurther cX10_layFurther 5 none [.ref (D.2.2 10 0), .int x1, .int x2] μ (pV (fun μ' => mvF μ μ' ∧ nM μ' n A S dy ∧ ∀ j, j < 25 → μ'.1 757 0 j = gnF (ePot A) (fuF A (wtM μ) dy S one other) one (j / 5) j ∧ μ'.1 758 0 j = gnF (ePot A) (fuF A (wtM μ) dy S one other) other (j % 5) j)) := by
  subst e1 e2
  refine en_X10_layFurther (fun Γ => bl_X10_layFurther_0 (by decide) ?_)
  rintro _ rfl
  exact layFurther_loop (μ0 := μ) hd h1 h2 hne h9 rfl (fun μ' a b c => ⟨a, b, c⟩) 25 0 μ (by omega) mvF.rf h (fun j hj => by omega)
theorem isRestM_loop {Γ : gC} {q : Int32 → gMem → Prop} {one other i : Nat} {pot : Int32} {fu : Nat → Int32} (hi : i < 25) (hf : ∀ j, j < 25 → μ.1 757 0 j = gnF pot fu one (j / 5) j ∧ μ.1 758 0 j = gnF pot fu other (j % 5) j) (hq : q (bI (rstP pot fu one other i)) μ) :
    ∀ (c k : Nat), k + c = 5 → (∀ j, j < k → ¬ gnF pot fu one (i / 5) i < gnF pot fu one j (j * 5 + i % 5) ∧ ¬ gnF pot fu other (i % 5) i < gnF pot fu other j (i / 5 * 5 + j)) → pt_X10_isRest_1 l D d q Γ 0 (nI i) (nI k) μ := by
  have e5 : (5 : Int32) = nI 5 := rfl
  intro c
  induction c with
  | zero =>
    intro k hk hj
    obtain rfl : k = 5 := by omega
    refine bl_X10_isRest_1 (by decide) ⟨fun _ => ?_, fun z => absurd (by rw [e5]; exact nI_le (Nat.le_refl _) (by omega)) z⟩
    rw [bI, if_pos (show rstP pot fu one other i from hj)] at hq
    exact hq
  | succ c ih =>
    intro k hk hj
    have no : ¬ rstP pot fu one other i → q 0 μ := by
      intro z
      rw [bI, if_neg z] at hq
      exact hq
    refine bl_X10_isRest_1 (by decide) ⟨fun z => absurd z (by rw [e5]; exact nI_ge (by omega) (by omega)), fun _ => ?_⟩
    rw [r5 (by omega), d5 (by omega)]
    refine ⟨k * 5 + i % 5, by omega, by rw [e5, pk_mul, nI_add, Nat.mul_comm], i, hi, rfl, ?_⟩
    have f1 := (hf (k * 5 + i % 5) (by omega)).1
    rw [show (k * 5 + i % 5) / 5 = k by omega] at f1
    have f2 := (hf (i / 5 * 5 + k) (by omega)).2
    rw [show (i / 5 * 5 + k) % 5 = k by omega] at f2
    rw [f1, (hf i hi).1]
    refine ⟨fun z => no (fun w => (w k (by omega)).1 z), fun z => ⟨i / 5 * 5 + k, by omega, by rw [e5, pk_mul, nI_add], i, hi, rfl, ?_⟩⟩
    rw [f2, (hf i hi).2]
    refine ⟨fun z2 => ?_, fun z2 => no (fun w => (w k (by omega)).2 (by rw [i32_le] at z2; rw [i32_lt]; omega))⟩
    rintro _ rfl
    rw [nI_1]
    refine ih (k + 1) (by omega) (fun j hj2 => ?_)
    by_cases ej : j = k
    · subst ej
      exact ⟨z, by rw [i32_le] at z2; rw [i32_lt]; omega⟩
    · exact hj j (by omega)
theorem c_X10_isRest {one other i : Nat} {pot : Int32} {fu : Nat → Int32} (hi : i < 25) (hf : ∀ j, j < 25 → μ.1 757 0 j = gnF pot fu one (j / 5) j ∧ μ.1 758 0 j = gnF pot fu other (j % 5) j) : Ctr l D d yX10_isRest cX10_isRest 3 (some .boolean) [.ref (D.2.2 10 0), .int (nI i)] μ (pI (fun v μ' => v = bI (rstP pot fu one other i) ∧ μ' = μ)) := by
  refine en_X10_isRest (fun Γ => bl_X10_isRest_0 (by decide) ?_)
  rintro _ rfl
  exact isRestM_loop hi hf ⟨rfl, rfl⟩ 5 0 (by omega) (fun j hj => by omega)
theorem restOf_loop {Γ : gC} {q : Int32 → gMem → Prop} {one other : Nat} {pot : Int32} {fu : Nat → Int32} (hd : 1 ≤ d) (hf : ∀ j, j < 25 → μ.1 757 0 j = gnF pot fu one (j / 5) j ∧ μ.1 758 0 j = gnF pot fu other (j % 5) j) {v : Int32} (hq : q v μ) :
    ∀ (c i m : Nat), i + c = 25 → m ≤ i → rofL (rstP pot fu one other) x1 c i m = v → pt_X10_restOf_1 l D d q Γ 0 x1 (nI m) (nI i) μ := by
  have e25 : (25 : Int32) = nI 25 := rfl
  intro c
  induction c with
  | zero =>
    intro i m hi hm hv
    obtain rfl : i = 25 := by omega
    rw [rofL] at hv
    rw [← hv] at hq
    refine bl_X10_restOf_1 (by decide) ⟨fun _ => ⟨fun z => ?_, fun z => ?_⟩, fun z => absurd (by rw [e25]; exact nI_le (Nat.le_refl _) (by omega)) z⟩
    · rw [if_neg z] at hq
      exact hq
    · rw [if_pos z] at hq
      exact hq
  | succ c ih =>
    intro i m hi hm hv
    refine bl_X10_restOf_1 (by decide) ⟨fun z => absurd z (by rw [e25]; exact nI_ge (by omega) (by omega)), fun _ => ⟨0, _, by omega, c_X10_isRest (one := one) (other := other) (pot := pot) (fu := fu) (by omega) hf, ?_⟩⟩
    rintro v1 μ1 ⟨rfl, rfl⟩
    rw [rofL] at hv
    by_cases hB : rstP pot fu one other i
    · rw [if_pos hB] at hv
      rw [bI, if_pos hB]
      refine ⟨fun _ => ⟨fun z => ?_, fun z => ?_⟩, fun z => absurd z (by decide)⟩
      · rw [if_neg z] at hv
        rintro _ rfl
        refine bl_X10_restOf_2 (by decide) ?_
        rintro _ rfl
        rw [nI_1, nI_1]
        exact ih (i + 1) (m + 1) (by omega) (by omega) hv
      · rw [if_pos z] at hv
        rw [← hv] at hq
        exact hq
    · rw [if_neg hB] at hv
      rw [bI, if_neg hB]
      refine ⟨fun z => absurd rfl z, fun _ => bl_X10_restOf_2 (by decide) ?_⟩
      rintro _ rfl
      rw [nI_1]
      exact ih (i + 1) m (by omega) (by omega) hv
theorem c_X10_restOf {one other : Nat} {pot : Int32} {fu : Nat → Int32} (hd : 1 ≤ d) (hf : ∀ j, j < 25 → μ.1 757 0 j = gnF pot fu one (j / 5) j ∧ μ.1 758 0 j = gnF pot fu other (j % 5) j) : Ctr l D d yX10_restOf cX10_restOf 4 (some .int) [.ref (D.2.2 10 0), .int x1] μ (pI (fun v μ' => v = rofL (rstP pot fu one other) x1 25 0 0 ∧ μ' = μ)) := by
  refine en_X10_restOf (fun Γ => bl_X10_restOf_0 (by decide) ?_)
  rintro _ rfl _ rfl
  exact restOf_loop hd hf ⟨rfl, rfl⟩ 25 0 0 (by omega) (by omega) rfl
theorem c_X10_areTwo (hd : 1 ≤ d) (h : nM μ n A S dy) : Ctr l D d yX10_areTwo cX10_areTwo 3 (some .boolean) [.ref (D.2.2 10 0), .int x1, .int x2] μ (pI (fun v μ' => v = bI (isM (eMen A) x1 ∧ isM (eMen A) x2 ∧ ¬ x1 = x2) ∧ μ' = μ)) := by
  refine en_X10_areTwo (fun Γ => bl_X10_areTwo_0 (by decide) ?_)
  rw [h.isn, h.isn]
  refine ⟨by omega, fun z => ⟨by rw [bI, if_neg (fun w => z w.1)], rfl⟩, fun z1 => ⟨by omega, fun z => ⟨by rw [bI, if_neg (fun w => z w.2.1)], rfl⟩, fun z2 => ⟨fun z => ⟨by rw [bI, if_neg (fun w => w.2.2 z)], rfl⟩, fun z3 => ⟨by rw [bI, if_pos ⟨Decidable.not_not.mp z1, Decidable.not_not.mp z2, z3⟩], rfl⟩⟩⟩⟩
theorem c_X10_rests (hd : 8 ≤ d) (h : nM μ n A S dy) (h9 : ∀ p, p < eMen A → (S p 9).toInt ≤ 999) : Ctr l D d yX10_rests cX10_rests 3 (some .int) [.ref (D.2.2 10 0), .int x1, .int x2] μ (pI (fun v μ' => v = restsF A (wtM μ) dy S x1 x2 ∧ mvF μ μ')) := by
  refine en_X10_rests (fun Γ => bl_X10_rests_0 (by decide) ?_)
  rintro μ1 rfl
  obtain ⟨hF0, h1⟩ := h.th
  refine ⟨7, _, by omega, c_X10_areTwo (by omega) h1, ?_⟩
  rintro v μ2 ⟨rfl, rfl⟩
  by_cases hc : isM (eMen A) x1 ∧ isM (eMen A) x2 ∧ ¬ x1 = x2
  · rw [bI, if_pos hc]
    refine ⟨fun _ => ?_, fun z => absurd z (by decide)⟩
    obtain ⟨m1, m2⟩ := isM_ix hc.1
    obtain ⟨n1, n2⟩ := isM_ix hc.2.1
    have hne : ¬ ix x1 = ix x2 := fun w => hc.2.2 (by rw [m1, n1, w])
    refine ⟨7, _, by omega, c_X10_layFurther m1 n1 (by omega) h1 m2 n2 hne h9, ?_⟩
    rintro μ3 ⟨hF3, hn3, hf⟩
    rw [wtM.mq hF0] at hf
    refine ⟨1, _, by omega, c_X10_restOf (by omega) hf, ?_⟩
    rintro v μ4 ⟨rfl, rfl⟩
    exact ⟨by rw [restsF, if_pos hc, rstG], hF0.v.tr hF3⟩
  · rw [bI, if_neg hc]
    exact ⟨fun z => absurd rfl z, fun _ => ⟨by rw [restsF, if_neg hc], hF0.v⟩⟩
theorem c_X10_rest (hd : 8 ≤ d) (h : nM μ n A S dy) (h9 : ∀ p, p < eMen A → (S p 9).toInt ≤ 999) : Ctr l D d yX10_rest cX10_rest 4 (some .int) [.ref (D.2.2 10 0), .int x1, .int x2, .int x3] μ (pI (fun v μ' => v = restF A (wtM μ) dy S x1 x2 x3 ∧ mvF μ μ')) := by
  refine en_X10_rest (fun Γ => bl_X10_rest_0 (by decide) ?_)
  rintro μ1 rfl
  obtain ⟨hF0, h1⟩ := h.th
  refine ⟨7, _, by omega, c_X10_areTwo (by omega) h1, ?_⟩
  rintro v μ2 ⟨rfl, rfl⟩
  have le0 : 0 ≤ x3 ↔ 0 ≤ x3.toInt := by rw [i32_le, i32_0]
  rw [le0]
  by_cases hc : isM (eMen A) x1 ∧ isM (eMen A) x2 ∧ ¬ x1 = x2
  · rw [bI, if_pos hc]
    refine ⟨fun z => absurd z (by decide), fun _ => ⟨fun z4 => ?_, fun z => ⟨by rw [restF, if_neg (fun w => z w.2.2.2)], hF0.v⟩⟩⟩
    obtain ⟨m1, m2⟩ := isM_ix hc.1
    obtain ⟨n1, n2⟩ := isM_ix hc.2.1
    have hne : ¬ ix x1 = ix x2 := fun w => hc.2.2 (by rw [m1, n1, w])
    refine ⟨7, _, by omega, c_X10_layFurther m1 n1 (by omega) h1 m2 n2 hne h9, ?_⟩
    rintro μ3 ⟨hF3, hn3, hf⟩
    rw [wtM.mq hF0] at hf
    refine ⟨1, _, by omega, c_X10_restOf (by omega) hf, ?_⟩
    rintro v μ4 ⟨rfl, rfl⟩
    exact ⟨by rw [restF, if_pos ⟨hc.1, hc.2.1, hc.2.2, z4⟩, rstG], hF0.v.tr hF3⟩
  · rw [bI, if_neg hc]
    exact ⟨fun _ => ⟨by rw [restF, if_neg (fun w => hc ⟨w.1, w.2.1, w.2.2.1⟩)], hF0.v⟩, fun z => absurd rfl z⟩
end Q4M
