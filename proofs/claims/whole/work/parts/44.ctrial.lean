/-! the class's trial world -/
theorem nI_toInt2 {k : Nat} (h : k < 2 ^ 31) : (nI k).toInt = k := nI_toInt h
/-- a number from a on up to b -/
abbrev inR (x : Int32) (a b : Int) : Prop := a ≤ x.toInt ∧ x.toInt ≤ b
/-- number x is one of n -/
abbrev isM (n : Nat) (x : Int32) : Prop := 0 ≤ x.toInt ∧ x.toInt < n
def ix (x : Int32) : Nat := x.toInt.toNat
theorem ix_nI {x : Int32} (h : 0 ≤ x.toInt) : x = nI (ix x) := by
  apply Int32.toInt_inj.mp
  have h1 := Int32.toInt_lt x
  rw [nI_toInt (by unfold ix; omega)]
  unfold ix
  omega
theorem ix_lt {n : Nat} {x : Int32} (h : isM n x) : ix x < n := by unfold ix; omega
theorem nI_sub1 {k : Nat} (h : k < 2 ^ 31) : (nI k - 1).toInt = (k : Int) - 1 := by
  rw [Int32.toInt_sub, nI_toInt h, i32_1]
  exact Int.bmod_eq_of_le (by omega) (by omega)
theorem iw_in {x a b : Int32} : iw x a b = 0 ↔ ¬ inR x a.toInt b.toInt := by
  unfold iw inR
  by_cases h1 : x < a
  · rw [if_pos h1]
    rw [i32_lt] at h1
    exact ⟨fun _ => by omega, fun _ => rfl⟩
  · rw [if_neg h1]
    rw [i32_lt] at h1
    by_cases h2 : b < x
    · rw [if_pos h2]
      rw [i32_lt] at h2
      exact ⟨fun _ => by omega, fun _ => rfl⟩
    · rw [if_neg h2]
      rw [i32_lt] at h2
      exact ⟨fun z => absurd z (by decide), fun z => absurd (by omega) z⟩
theorem iw_man {n : Nat} {x : Int32} (hn : n < 2 ^ 31) : iw x 0 (nI n - 1) = 0 ↔ ¬ isM n x := by
  rw [iw_in, nI_sub1 hn, i32_0]
  unfold inR isM
  omega
theorem isn_man {n : Nat} {x : Int32} (hn : n < 2 ^ 31) : isn x (nI n) = 0 ↔ ¬ isM n x := by
  unfold isn isM
  by_cases h1 : x < 0
  · rw [if_pos h1]
    rw [i32_lt, i32_0] at h1
    exact ⟨fun _ => by omega, fun _ => rfl⟩
  · rw [if_neg h1]
    rw [i32_lt, i32_0] at h1
    by_cases h2 : nI n ≤ x
    · rw [if_pos h2]
      rw [i32_le, nI_toInt hn] at h2
      exact ⟨fun _ => by omega, fun _ => rfl⟩
    · rw [if_neg h2]
      rw [i32_le, nI_toInt hn] at h2
      exact ⟨fun z => absurd z (by decide), fun z => absurd (by omega) z⟩
/-- what a look ahead of the class changes -/
def cqF (μ μ' : gMem) : Prop := (∀ k j, ¬ ((k = 4 ∨ k = 331) ∧ 10 ≤ j ∧ j < 15) → ¬ (k = 8 ∧ j = 2) → μ'.1 k j = μ.1 k j) ∧ μ'.2.2 = μ.2.2 ∧ ∀ k j, ¬ (k = 8 ∧ j = 2) → ¬ k = 196 → ¬ k = 197 → ¬ k = 2 → μ'.2.1 k j = μ.2.1 k j
theorem cqF.rf {μ : gMem} : cqF μ μ := ⟨fun _ _ _ _ => rfl, rfl, fun _ _ _ _ _ _ => rfl⟩
theorem cqF.tr {μ μ1 μ2 : gMem} (h : cqF μ μ1) (h2 : cqF μ1 μ2) : cqF μ μ2 := ⟨fun k j a b => (h2.1 k j a b).trans (h.1 k j a b), h2.2.1.trans h.2.1, fun k j a b c e => (h2.2.2 k j a b c e).trans (h.2.2 k j a b c e)⟩
theorem lyFr.cq {μ μ' : gMem} (h : lyFr 2 μ μ') : cqF μ μ' := ⟨fun k j a b => h.1 k j (by omega) b, h.2.1, fun k j a _ _ _ => h.2.2 k j a⟩
theorem wFr.cq {t : Nat} {μ μ' : gMem} (h : wFr t 2 μ μ') : cqF μ μ' := ⟨fun k j a b => h.1 k j (by omega) b, h.2.2.1, fun k j a b c e => h.2.2.2 k j (by omega) (by omega) (by omega)⟩
theorem cqF.put {μ μ1 : gMem} {k i j : Nat} {v : Int32} (h : cqF μ μ1) (hk : ((k = 4 ∨ k = 331) ∧ 10 ≤ i ∧ i < 15) ∨ (k = 8 ∧ i = 2)) : cqF μ (gsI μ1 k i j v) := h.tr ⟨fun k' j' a b => gsI_off (by omega), rfl, fun _ _ _ _ _ _ => rfl⟩
/-- what a question to the class changes -/
def cwF (μ μ' : gMem) : Prop := (∀ k j, ¬ ((k = 4 ∨ k = 331) ∧ 10 ≤ j ∧ j < 15) → ¬ (k = 8 ∧ j = 2) → ¬ k = 649 → ¬ k = 650 → ¬ k = 261 → μ'.1 k j = μ.1 k j) ∧ μ'.2.2 = μ.2.2 ∧ ∀ k j, ¬ (k = 8 ∧ j = 2) → ¬ k = 196 → ¬ k = 197 → ¬ k = 2 → μ'.2.1 k j = μ.2.1 k j
theorem cwF.rf {μ : gMem} : cwF μ μ := ⟨fun _ _ _ _ _ _ _ => rfl, rfl, fun _ _ _ _ _ _ => rfl⟩
theorem cwF.tr {μ μ1 μ2 : gMem} (h : cwF μ μ1) (h2 : cwF μ1 μ2) : cwF μ μ2 := ⟨fun k j a b c e f => (h2.1 k j a b c e f).trans (h.1 k j a b c e f), h2.2.1.trans h.2.1, fun k j a b c e => (h2.2.2 k j a b c e).trans (h.2.2 k j a b c e)⟩
theorem cqF.w {μ μ' : gMem} (h : cqF μ μ') : cwF μ μ' := ⟨fun k j a b _ _ _ => h.1 k j a b, h.2⟩
theorem cwF.put {μ μ1 : gMem} {k i j : Nat} {v : Int32} (h : cwF μ μ1) (hk : ((k = 4 ∨ k = 331) ∧ 10 ≤ i ∧ i < 15) ∨ (k = 8 ∧ i = 2) ∨ k = 649 ∨ k = 650 ∨ k = 261) : cwF μ (gsI μ1 k i j v) := h.tr ⟨fun k' j' a b c e f => gsI_off (by omega), rfl, fun _ _ _ _ _ _ => rfl⟩
theorem cwF.g {μ μ' : gMem} (h : cwF μ μ') {k j : Nat} (hk : ¬ ((k = 4 ∨ k = 331) ∧ 10 ≤ j ∧ j < 15) ∧ ¬ (k = 8 ∧ j = 2) ∧ ¬ k = 649 ∧ ¬ k = 650 ∧ ¬ k = 261) : μ'.1 k j = μ.1 k j := h.1 k j hk.1 hk.2.1 hk.2.2.1 hk.2.2.2.1 hk.2.2.2.2
theorem cwF.tC {μ μ' : gMem} {t n : Nat} {A : wEnv} (hF : cwF μ μ') (h : tC μ t n A) : tC μ' t n A := h.of (hF.g (by omega)) (hF.g (by omega)) (hF.g (by omega)) (hF.g (by omega)) (hF.g (by omega)) (by rw [hF.g (by omega)]) (hF.g (by omega))
theorem cqF.tC {μ μ' : gMem} {t n : Nat} {A : wEnv} (hF : cqF μ μ') (h : tC μ t n A) : tC μ' t n A := hF.w.tC h
theorem wC.cw {μ μ' : gMem} {t n e dy : Nat} {A : wEnv} {S : pplS} (hF : cwF μ μ') (hj : jk μ') (h : wC μ t n 0 A e S dy) : wC μ' t n 0 A e S dy := by
  obtain ⟨hT, hA, ⟨hg, hpl, hon⟩, hps, ⟨hr, _⟩, hS, hdy⟩ := h
  have g8 : μ'.1 8 0 = μ.1 8 0 := hF.g (by omega)
  refine ⟨hF.tC hT, hA, ⟨by rw [g8]; exact hg, by rw [g8]; exact hpl, by rw [g8]; exact hon⟩, fun p hp => ?_, ⟨fun k hk => ?_, hj⟩, hS, by rw [g8]; exact hdy⟩
  · have := hA.1
    rw [hF.g (k := 519) (j := t) (by omega), hF.g (k := 520) (j := t) (by omega), hF.g (k := 331) (by omega)]
    exact hps p hp
  · rw [hF.g (k := 4) (by omega)]
    exact hr k hk
theorem wC.cq {μ μ' : gMem} {t n e dy : Nat} {A : wEnv} {S : pplS} (hF : cqF μ μ') (hj : jk μ') (h : wC μ t n 0 A e S dy) : wC μ' t n 0 A e S dy := wC.cw hF.w hj h
/-- the class as it is now -/
def nC (μ : gMem) (t n : Nat) (A : wEnv) (S : pplS) (dy : Nat) : Prop := μ.2.2 0 = t ∧ t < 2 ∧ wC μ t n 0 A 0 S dy ∧ pln A ∧ dy ≤ 9900 ∧ ∀ p, p < eMen A → (S p 9).toInt ≤ 999
theorem nC.cw {μ μ' : gMem} {t n dy : Nat} {A : wEnv} {S : pplS} (h : nC μ t n A S dy) (hF : cwF μ μ') (hj : jk μ') : nC μ' t n A S dy := ⟨by rw [hF.2.1]; exact h.1, h.2.1, wC.cw hF hj h.2.2.1, h.2.2.2⟩
theorem nC.cq {μ μ' : gMem} {t n dy : Nat} {A : wEnv} {S : pplS} (h : nC μ t n A S dy) (hF : cqF μ μ') (hj : jk μ') : nC μ' t n A S dy := ⟨by rw [hF.2.1]; exact h.1, h.2.1, wC.cq hF hj h.2.2.1, h.2.2.2⟩
theorem nC.jk {μ : gMem} {t n dy : Nat} {A : wEnv} {S : pplS} (h : nC μ t n A S dy) : jk μ := h.2.2.1.2.2.2.2.1.2
theorem nC.men {μ : gMem} {t n dy : Nat} {A : wEnv} {S : pplS} (h : nC μ t n A S dy) : eMen A ≤ 5 := h.2.2.1.2.1.1
theorem nC.row {μ : gMem} {t n dy : Nat} {A : wEnv} {S : pplS} (h : nC μ t n A S dy) {k : Nat} (hk : k < 5) : μ.1 4 k = S k := by
  have := h.2.2.1.2.2.2.2.1.1 k hk
  rw [Nat.mul_zero, Nat.zero_add] at this
  exact this
/-- is it wet as it goes -/
def wtC (μ : gMem) (t : Nat) : Int32 := bI (¬ μ.1 7 t 16 < (50 : Int32))
theorem wtC.cq {μ μ' : gMem} {t : Nat} (hF : cqF μ μ') : wtC μ' t = wtC μ t := by
  unfold wtC
  rw [hF.1 7 t (by omega) (by omega)]
section CT
variable {l : Launch} {D : gD} {d : Nat} {μ : gMem} {t n dy : Nat} {A : wEnv} {S : pplS}
theorem trial_is {μ' : gMem} (h : nC μ t n A S dy) (hc : wCp 2 0 μ μ') : wC μ' t n 2 A 0 S dy := by
  obtain ⟨_, _, ⟨hT, hA, ⟨hg, hpl, hon⟩, hps, ⟨hr, _⟩, hS, hdy⟩, hp, _⟩ := h
  obtain ⟨hF, hrow, ⟨c1, c2, c3⟩, ⟨c4, c5, c6, c7⟩, hjk⟩ := hc
  have g : ∀ k, ¬ k = 4 → ¬ k = 331 → ¬ k = 8 → ∀ j, μ'.1 k j = μ.1 k j := fun k a b c j => hF.1 k j (by omega) (by omega)
  have hA5 := hA.1
  refine ⟨hF.cq.tC hT, hA, ⟨?_, ?_, fun p hp2 => ?_⟩, fun p hp2 => ?_, ⟨fun k hk => ?_, hjk⟩, hS, ?_⟩
  · rw [c5]; show _ = A.2.2.2.2.1; rw [hp]
  · rw [c7, hp]
  · rw [c6]
    have e1 : eOn A p := by show A.2.2.2.2.2.2 p = true; rw [hp]
    have e2 : eGone A = -1 := by show A.2.2.2.2.1 = -1; rw [hp]
    rw [e2]
    exact ⟨fun _ => ⟨nI_nm1 (by omega), Or.inl rfl⟩, fun _ => e1⟩
  · rw [g 519 (by omega) (by omega) (by omega), g 520 (by omega) (by omega) (by omega), (hrow p (by omega)).2]
    exact hps p hp2
  · rw [(hrow k hk).1]
    exact hr k hk
  · rw [c1]; exact hdy
theorem c_X9_lookAtAll (hd : 3 ≤ d) (h : nC μ t n A S dy) : Ctr l D d yX9_lookAtAll cX9_lookAtAll 1 none [.ref (D.2.2 9 0)] μ (pV (fun μ' => cqF μ μ' ∧ nC μ' t n A S dy ∧ wC μ' t n 2 A 0 S dy ∧ (∀ k, k < 5 → μ'.1 331 (10 + k) = μ.1 331 k) ∧ (∀ k, k < 5 → μ'.1 4 (10 + k) = μ.1 4 k) ∧ μ'.1 8 2 4 = -1)) := by
  refine en_X9_lookAtAll (fun Γ => bl_X9_lookAtAll_0 (by decide) ⟨2, _, by omega, c_X8_copyFrom (w0 := 2) (w1 := 0) (by omega) (by decide) (by decide) (by decide) h.jk ?_, ?_⟩)
  · intro k hk
    rw [h.2.2.1.2.2.2.2.1.1 k hk]
    exact h.2.2.1.2.2.2.2.2.1.2.2.2 k hk
  · intro μ' hc
    have hw := trial_is h hc
    have hF := hc.1.cq
    refine ⟨hF, h.cq hF hc.2.2.2.2, hw, fun k hk => ?_, fun k hk => ?_, hc.2.2.2.1.1⟩
    · have := (hc.2.1 k hk).2
      rw [Nat.mul_zero, Nat.zero_add] at this
      exact this
    · have := (hc.2.1 k hk).1
      rw [Nat.mul_zero, Nat.zero_add] at this
      exact this
theorem c_X9_lookAhead {man : Nat} {x1 : Int32} (hx : x1 = nI man) (hd : 3 ≤ d) (h : nC μ t n A S dy) (hm : man < eMen A) : Ctr l D d yX9_lookAhead cX9_lookAhead 2 (some (.object "WristGoal$Person")) [.ref (D.2.2 9 0), .int x1] μ (pR D 4 (fun v μ' => v = 10 + man ∧ cqF μ μ' ∧ nC μ' t n A S dy ∧ wC μ' t n 2 (lkA A (μ.1 2 t 8) man) 0 S dy)) := by
  subst hx
  have hm5 := h.men
  refine en_X9_lookAhead (fun Γ => bl_X9_lookAhead_0 (by decide) ⟨2, _, by omega, c_X8_copyFrom (w0 := 2) (w1 := 0) (by omega) (by decide) (by decide) (by decide) h.jk ?_, ?_⟩)
  · intro k hk
    rw [h.2.2.1.2.2.2.2.1.1 k hk]
    exact h.2.2.1.2.2.2.2.2.1.2.2.2 k hk
  · intro μ1 hc
    have hw := trial_is h hc
    have hF := hc.1.cq
    have e0 : μ1.2.2 0 = t := by rw [hF.2.1]; exact h.1
    have e2 : μ1.1 2 t = μ.1 2 t := hF.1 _ _ (by omega) (by omega)
    rw [e0, e2]
    have fin : ∀ v : Int32, v = (if μ.1 2 t 8 = 0 then nI man else -1) → pt_X9_lookAhead_1 l D d (fun v μ' => v = 10 + man ∧ cqF μ μ' ∧ nC μ' t n A S dy ∧ wC μ' t n 2 (lkA A (μ.1 2 t 8) man) 0 S dy) Γ 0 (nI man) 2 v μ1 := by
      intro v hv
      refine bl_X9_lookAhead_1 (by decide) (by decide) ?_
      rintro μ2 e
      refine ⟨man, by omega, rfl, rfl, ?_⟩
      have hF2 : cqF μ μ2 := by rw [e]; exact hF.put (by omega)
      have hj2 : jk μ2 := hc.2.2.2.2.of (fun i => by rw [e, gsI_off (by omega)]) (fun i => by rw [e, gsI_off (by omega)])
      refine ⟨hF2, h.cq hF2 hj2, ?_⟩
      obtain ⟨hT, hA, ⟨hg, hpl, hon⟩, hps, ⟨hr, _⟩, hS, hdy⟩ := hw
      have r8 : μ2.1 8 2 = fun j => if j = 6 then v else μ1.1 8 2 j := by rw [e, gsI_row]
      have hpa := h.2.2.2.1
      refine ⟨hF2.tC h.2.2.1.1, hA, ⟨?_, ?_, fun p hp2 => ?_⟩, fun p hp2 => ?_, ⟨fun k hk => ?_, hj2⟩, hS, ?_⟩
      · rw [r8]
        show μ1.1 8 2 5 = -1
        exact hc.2.2.2.1.2.1
      · rw [r8]
        show μ1.1 8 2 7 = 0
        exact hc.2.2.2.1.2.2.2
      · have e9 : μ2.1 8 2 6 = v := by rw [r8]; rfl
        have hp3 : p < eMen A := hp2
        rw [e9, hv]
        show (decide (¬ μ.1 2 t 8 = 0 ∨ p = man) = true) ↔ ¬ nI p = -1 ∧ _
        by_cases hb : μ.1 2 t 8 = 0
        · rw [if_pos hb]
          simp only [hb, not_true_eq_false, false_or, decide_eq_true_eq]
          refine ⟨fun z => ⟨nI_nm1 (by omega), Or.inr (by rw [z])⟩, fun z => ?_⟩
          rcases z.2 with z1 | z1
          · exact absurd z1 (nI_nm1 (by omega))
          · exact ((nI_eq (by omega) (by omega)).mp z1).symm
        · rw [if_neg hb]
          simp only [hb, not_false_eq_true, true_or, decide_true, true_iff]
          exact ⟨nI_nm1 (by omega), by trivial⟩
      · rw [e, gsI_off (by omega), gsI_off (by omega), gsI_off (by omega)]
        exact hps p hp2
      · rw [e, gsI_off (by omega)]
        exact hr k hk
      · rw [r8]
        exact hdy
    refine ⟨h.2.1, by omega, h.2.2.1.1.2.2.2.1.2.1, fun hb => fin _ (by rw [if_pos hb]), fun hb => fin _ (by rw [if_neg hb])⟩
theorem pass_loop {Γ : gC} {q : gMem → Prop} {A0 : wEnv} {S0 S : pplS} {dy0 dy e m : Nat} {μ0 : gMem} (hd : 6 ≤ d) (h0 : nC μ0 t n A0 S0 dy0) (he : e ≤ 2000) (hdm : dy + m ≤ 100000) (hm : m < 2 ^ 31)
    (hq : ∀ μ', cqF μ0 μ' → wC μ' t n 2 A e (runF A (wtC μ0 t) m dy S) (dy + m) → μ'.1 8 2 4 = winF A (wtC μ0 t) (μ0.1 8 2 4) m dy S → q μ') :
    ∀ (c j : Nat) (μ : gMem), j + c = m → cqF μ0 μ → wC μ t n 2 A e (runF A (wtC μ0 t) j dy S) (dy + j) → μ.1 8 2 4 = winF A (wtC μ0 t) (μ0.1 8 2 4) j dy S → pt_X9_passAsItGoes_1 l D d q Γ 0 (nI m) (wtC μ0 t) (nI j) μ := by
  intro c
  induction c with
  | zero =>
    intro j μ hj hF hw hwin
    obtain rfl : j = m := by omega
    refine bl_X9_passAsItGoes_1 (by decide) ⟨fun _ => hq μ hF hw hwin, fun h => ?_⟩
    exact absurd (nI_le (Nat.le_refl _) (by omega)) h
  | succ c ih =>
    intro j μ hj hF hw hwin
    have e0 : μ.2.2 0 = t := by rw [hF.2.1]; exact h0.1
    refine bl_X9_passAsItGoes_1 (by decide) ⟨fun h => absurd h (nI_ge (by omega) (by omega)), fun _ => ?_⟩
    rw [e0]
    refine ⟨h0.2.1, 5, _, by omega, d_X8_passDay (by omega) (by decide) h0.2.1 hw he (by omega), ?_⟩
    rintro μ1 ⟨hF1, hw1, -, h4⟩ _ rfl
    rw [nI_1]
    refine ih (j + 1) μ1 (by omega) (hF.tr hF1.cq) hw1 ?_
    rw [h4, hwin]
    rfl
theorem c_X9_passAsItGoes {A0 : wEnv} {S0 S : pplS} {dy0 dy e m : Nat} {x1 : Int32} (hx : x1 = nI m) (hd : 6 ≤ d) (h0 : nC μ t n A0 S0 dy0) (hw : wC μ t n 2 A e S dy) (he : e ≤ 2000) (hdm : dy + m ≤ 100000) :
    Ctr l D d yX9_passAsItGoes cX9_passAsItGoes 4 none [.ref (D.2.2 9 0), .int x1] μ (pV (fun μ' => cqF μ μ' ∧ nC μ' t n A0 S0 dy0 ∧ wC μ' t n 2 A e (runF A (wtC μ t) m dy S) (dy + m) ∧ μ'.1 8 2 4 = winF A (wtC μ t) (μ.1 8 2 4) m dy S)) := by
  subst hx
  refine en_X9_passAsItGoes (fun Γ => bl_X9_passAsItGoes_0 (by decide) ?_)
  rw [h0.1]
  refine ⟨by omega, h0.2.1, ?_⟩
  rintro _ rfl _ rfl
  exact pass_loop (S := S) hd h0 he hdm (by omega) (fun μ' a b c => ⟨a, h0.cq a b.2.2.2.2.1.2, b, c⟩) m 0 μ (by omega) cqF.rf hw rfl
theorem c_X9_daysToPot (h0 : nC μ t n A S dy) : Ctr l D d yX9_daysToPot cX9_daysToPot 1 (some .int) [.ref (D.2.2 9 0)] μ (pI (fun v μ' => v = nI (dtp A dy) ∧ μ' = μ)) := by
  have hA := h0.2.2.1.2.1
  have hb := hA.2.1
  have hb2 := hA.2.2.1
  have e13 := h0.2.2.1.1.2.2.2.2.1
  have e1 := h0.2.2.1.2.2.2.2.2.2
  have hdy := h0.2.2.2.2.1
  have hmod := Nat.mod_lt dy hb
  refine en_X9_daysToPot (fun Γ => bl_X9_daysToPot_0 (by decide) ?_)
  rw [h0.1, e13, e1]
  refine ⟨h0.2.1, fun h => absurd h (nI_nle hb (by omega)), fun _ => ⟨h0.2.1, h0.2.1, nI_ne0 hb (by omega), ?_, rfl⟩⟩
  rw [pk_rem (by omega) hb (by omega)]
  apply Int32.toInt_inj.mp
  rw [Int32.toInt_sub, nI_toInt (by omega), nI_toInt (by omega), nI_toInt (by unfold dtp; omega)]
  unfold dtp
  rw [Int.bmod_eq_of_le (by omega) (by omega)]
  omega
end CT
