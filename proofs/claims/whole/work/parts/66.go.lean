/-! go -/
abbrev goP (σ : sV) (x1 : Int32) : Prop := inR x1 0 99 ∧ (σ.2.1.2.2.1 : Int) + x1.toInt ≤ 9900
noncomputable def goVn (σ : sV) (m : Nat) : wV := (runD (eA σ) σ.1.2.2.2.2.2.2.2.1 σ.2.1.2.2.1 σ.2.1.1 σ.2.1.2.2.2.2 m, σ.2.1.2.1, σ.2.1.2.2.1 + m, wdF σ.1.2.2.2.2.2.2.2.1 σ.2.1.2.2.2.2 σ.2.1.2.2.2.1 m, nxF σ.1.2.2.2.2.2.2.2.1 m σ.2.1.2.2.2.2)
noncomputable def goS (σ : sV) (x1 : Int32) : sV := if goP σ x1 ∧ ¬ ix x1 = 0 then (σ.1, goVn σ (ix x1), σ.2.2.1, σ.2.2.2.1, (0, (fun _ => goVn σ (ix x1)), σ.2.2.2.2.1.2.2), σ.2.2.2.2.2) else σ
def goV (σ : sV) (x1 : Int32) : Int32 := if goP σ x1 then nI (σ.2.1.2.2.1 + ix x1) else -1
theorem runD_hi {A : wEnv} {rain x : Int32} {dy k j : Nat} {S : pplS} (hj : 10 ≤ j) : ∀ c, runD A rain dy S x c k j = S k j := by
  intro c
  induction c with
  | zero => rfl
  | succ c ih => exact (stp_hi hj).trans ih
theorem goS_ok {σ : sV} {x1 : Int32} (h : sOkS σ) : sOkS (goS σ x1) := by
  unfold goS
  split
  · rename_i hc
    obtain ⟨hP, h0⟩ := hc
    have hA := eA_ok h
    have hV : okV σ.1.1 (goVn σ (ix x1)) := by
      obtain ⟨v1, v2, v3, v4, v5, v6, v7⟩ := h.2.1
      have hi : ix x1 ≤ 99 := by have := hP.1; unfold ix; omega
      have hd : σ.2.1.2.2.1 + ix x1 ≤ 9900 := by have := hP.1; have := hP.2; unfold ix; omega
      refine ⟨okS_runD (A := eA σ) hA (by omega) v1 (ix x1) (by omega), fun p hp => ?_, v3, nxF_rng v4 _, hd, fun k hk j hj => ?_, v7⟩
      · obtain ⟨c, hc⟩ : ∃ c, ix x1 = c + 1 := ⟨ix x1 - 1, by omega⟩
        show (runD (eA σ) _ _ _ _ (ix x1) p 9).toInt ≤ 999
        rw [hc]
        show (stp (eA σ) _ _ _ p 9).toInt ≤ 999
        rw [stp_9 (A := eA σ) rfl hp, i32_0]
        omega
      · show runD (eA σ) _ _ _ _ (ix x1) k j = 0
        rw [runD_hi (by omega)]
        exact v6 k hk j hj
    exact ⟨h.1, hV, h.2.2.1, h.2.2.2.1, ⟨Nat.zero_le _, rfl, fun k hk => absurd hk (Nat.not_lt_zero k)⟩, h.2.2.2.2.2⟩
  · exact h
section G9
variable {l : Launch} {D : gD} {d : Nat} {μ : gMem} {t : Nat} {σ : sV} {x1 : Int32}
/-- what days of the class's now change -/
def goF (μ μ' : gMem) : Prop := (∀ k j, ¬ (k = 4 ∧ j < 5) → ¬ (k = 8 ∧ j = 0) → μ'.1 k j = μ.1 k j) ∧ (∀ j, ¬ j = 1 → ¬ j = 2 → ¬ j = 4 → μ'.1 8 0 j = μ.1 8 0 j) ∧ μ'.2.2 = μ.2.2 ∧ ∀ k j, ¬ (k = 8 ∧ j = 0) → ¬ k = 196 → ¬ k = 197 → ¬ k = 2 → μ'.2.1 k j = μ.2.1 k j
theorem goF.rf : goF μ μ := ⟨fun _ _ _ _ => rfl, fun _ _ _ _ => rfl, rfl, fun _ _ _ _ _ _ => rfl⟩
theorem goF.tr {μ1 μ2 : gMem} (h : goF μ μ1) (h2 : goF μ1 μ2) : goF μ μ2 := ⟨fun k j a b => (h2.1 k j a b).trans (h.1 k j a b), fun j a b c => (h2.2.1 j a b c).trans (h.2.1 j a b c), h2.2.2.1.trans h.2.2.1, fun k j a b c e => (h2.2.2.2 k j a b c e).trans (h.2.2.2 k j a b c e)⟩
theorem goC_loop {Γ : gC} {q : Int32 → gMem → Prop} {m : Nat} {A : wEnv} {S : pplS} {n dy : Nat} {rain x w0 : Int32} {μ0 : gMem} (hd : 6 ≤ d) (ht : t < 2) (h0 : μ0.2.2 0 = t) (hr : μ0.1 7 t 16 = rain) (hx : 0 ≤ x.toInt) (hm : m ≤ 99) (hdy : dy ≤ 9900)
    (hq : ∀ μ', goF μ0 μ' → wC μ' t n 0 A 0 (runD A rain dy S x m) (dy + m) → μ'.1 8 0 2 = wdF rain x w0 m → μ'.2.1 8 0 3 = (nxF rain m x).toInt64 → pt_X9_go_1 l D d q Γ 0 (nI m) (nI m) μ') :
    ∀ (c j : Nat) (μ : gMem), j + c = m → goF μ0 μ → wC μ t n 0 A 0 (runD A rain dy S x j) (dy + j) → μ.1 8 0 2 = wdF rain x w0 j → μ.2.1 8 0 3 = (nxF rain j x).toInt64 → pt_X9_go_1 l D d q Γ 0 (nI m) (nI j) μ := by
  intro c
  induction c with
  | zero =>
    intro j μ hj hF hw h2 h3
    obtain rfl : j = m := by omega
    exact hq μ hF hw h2 h3
  | succ c ih =>
    intro j μ hj hF hw h2 h3
    have e0 : μ.2.2 0 = t := by rw [hF.2.2.1]; exact h0
    have e7 : μ.1 7 t 16 = rain := by rw [hF.1 7 t (by omega) (by omega)]; exact hr
    refine bl_X9_go_1 (by decide) ⟨fun z => absurd z (nI_ge (by omega) (by omega)), fun _ => ?_⟩
    rw [e0, e7]
    refine ⟨ht, ht, 0, _, by omega, c_X8_drawsWet (by decide) (nxF_rng hx j) h3, ?_⟩
    rintro v μ1 ⟨rfl, i1, i2, i3, i4⟩
    have hF1 : goF μ μ1 := ⟨fun k j _ _ => by rw [i1], fun j _ _ _ => by rw [i1], i2, fun k j a _ _ _ => i3 k j a⟩
    refine ⟨5, _, by omega, d_X8_passDay (by omega) (by decide) ht (hw.I i1) (by omega) (by omega), ?_⟩
    rintro μ2 ⟨hF2, hw2, h22, -⟩ _ rfl
    have hF2' : goF μ1 μ2 := ⟨fun k j a b => hF2.1 k j (by omega) b, hF2.2.1, hF2.2.2.1, fun k j _ a b c => hF2.2.2.2 k j (by omega) (by omega) (by omega)⟩
    rw [nI_1]
    refine ih (j + 1) μ2 (by omega) (hF.tr (hF1.tr hF2')) hw2 ?_ ?_
    · rw [h22, i1, h2]
      rfl
    · rw [hF2.2.2.2 8 0 (by omega) (by omega) (by omega), i4]
      rfl
theorem c_X9_go (hd : 6 ≤ d) (h : cSt μ t σ) (hO : sOkS σ) : Ctr l D d yX9_go cX9_go 3 (some .int) [.ref (D.2.2 9 0), .int x1] μ (pI (fun v μ' => v = goV σ x1 ∧ cSt μ' t (goS σ x1) ∧ mKp μ μ')) := by
  have hn := h.nC hO
  have hW := h.2.2.2.2.1
  obtain ⟨v1, v2, v3, v4, v5, v6, v7⟩ := hO.2.1
  have h5 := hO.1.1.1
  refine en_X9_go (fun Γ => bl_X9_go_0 (by decide) ?_)
  rw [iw_lit (x := x1) (za := 0) (zb := 99) (by decide) (by decide)]
  refine ⟨by omega, fun z => ⟨by rw [goV, if_neg (fun w => z w.1)], by rw [goS, if_neg (fun w => z w.1.1)]; exact h, mKp.rf⟩, fun z1 => ?_⟩
  have z1 := Decidable.not_not.mp z1
  obtain ⟨n1, n2⟩ := inR_ix (b := 99) z1
  have xi : x1.toInt = (ix x1 : Int) := by unfold ix; omega
  have e1 : μ.1 8 0 1 + x1 ≤ (9900 : Int32) ↔ (σ.2.1.2.2.1 : Int) + x1.toInt ≤ 9900 := by
    rw [hW.2.2.1, i32_le, fb_addI (by rw [nI_toInt (by omega)]; omega) (by rw [nI_toInt (by omega)]; omega), nI_toInt (by omega), show (9900 : Int32).toInt = 9900 by decide]
  rw [e1]
  refine ⟨fun z2 => ?_, fun z => ⟨by rw [goV, if_neg (fun w => z w.2)], by rw [goS, if_neg (fun w => z w.1.2)]; exact h, mKp.rf⟩⟩
  rintro _ rfl
  have hP : goP σ x1 := ⟨z1, z2⟩
  have := goC_loop (l := l) (D := D) (d := d) (Γ := Γ) (t := t) (q := fun v μ' => v = goV σ x1 ∧ cSt μ' t (goS σ x1) ∧ mKp μ μ') (m := ix x1) (A := eA σ) (S := σ.2.1.1) (n := σ.1.2.1) (dy := σ.2.1.2.2.1) (rain := σ.1.2.2.2.2.2.2.2.1) (x := σ.2.1.2.2.2.2) (w0 := σ.2.1.2.2.2.1) (μ0 := μ) hd h.1.2.1 h.1.1 h.2.2.2.1.2.2.2.2.2.1 v4 n2 v5 ?_ (ix x1) 0 μ (by omega) goF.rf hn.2.2.1 hW.2.2.2.1 hW.2.2.2.2
  · rw [← n1] at this
    exact this
  · intro μ' hF hw w2 w3
    have hg : goV σ x1 = μ'.1 8 0 1 := by rw [goV, if_pos hP]; exact hw.2.2.2.2.2.2.symm
    refine bl_X9_go_1 (by decide) ⟨fun _ => ⟨fun z => bl_X9_go_2 (by decide) ⟨hg.symm, ?_, fun k j hk => hF.1 k j (by omega) (by omega)⟩, fun z => ?_⟩, fun z => absurd (nI_le (Nat.le_refl _) (by omega)) z⟩
    · have m0 : ix x1 = 0 := by
        rw [i32_le, nI_toInt (by omega), i32_0] at z
        omega
      rw [goS, if_neg (fun w => w.2 m0)]
      rw [m0] at hw w2 w3
      have hw0 : ∀ k, k < 5 → μ'.1 4 (5 * 0 + k) = σ.2.1.1 k := hw.2.2.2.2.1.1
      have hz := cSt_now (U := σ.2.2.2.2.1.2.1) (m := σ.2.2.2.2.1.1) (Vn := σ.2.1) h (Nat.le_refl _) (fun k j a b c => hF.1 k j (by omega) c) (by rw [hF.2.1 5 (by omega) (by omega) (by omega), hF.2.1 6 (by omega) (by omega) (by omega), hF.2.1 7 (by omega) (by omega) (by omega)]; exact h.2.1) hF.2.2.1 (hF.2.2.2 8 1 (by omega) (by omega) (by omega) (by omega)) hw.2.2.2.2.1.2 ⟨hw0, fun k hk => by rw [hF.1 331 _ (by omega) (by omega)]; exact hW.2.1 k hk, hw.2.2.2.2.2.2, w2, w3⟩ (by rw [hF.1 0 0 (by omega) (by omega)]; exact h.2.2.2.2.2.2.2.1.1)
      exact hz
    · have m0 : ¬ ix x1 = 0 := by
        intro w
        rw [w] at z
        exact z (by decide)
      rintro μ2 e2
      have g : ∀ a b, ¬ (a = 0 ∧ b = 0) → μ2.1 a b = μ'.1 a b := fun a b hab => by rw [e2, gsI_off hab]
      have h22 : μ2.2 = μ'.2 := by rw [e2]; rfl
      refine bl_X9_go_2 (by decide) ⟨by rw [g 8 0 (by omega)]; exact hg.symm, ?_, fun k j hk => by rw [g k j (by omega)]; exact hF.1 k j (by omega) (by omega)⟩
      rw [goS, if_pos ⟨hP, m0⟩]
      refine cSt_now (Vn := goVn σ (ix x1)) (m := 0) h (Nat.zero_le _) (fun k j a b c => by rw [g k j a]; exact hF.1 k j (by omega) c) (by rw [g 8 0 (by omega), hF.2.1 5 (by omega) (by omega) (by omega), hF.2.1 6 (by omega) (by omega) (by omega), hF.2.1 7 (by omega) (by omega) (by omega)]; exact h.2.1) (by rw [h22]; exact hF.2.2.1) (by rw [h22]; exact hF.2.2.2 8 1 (by omega) (by omega) (by omega) (by omega)) (hw.2.2.2.2.1.2.of (fun i => g 4 i (by omega)) (fun i => g 331 i (by omega))) ⟨fun k hk => by rw [g 4 _ (by omega)]; exact hw.2.2.2.2.1.1 k hk, fun k hk => by rw [g 331 _ (by omega), hF.1 331 _ (by omega) (by omega)]; exact hW.2.1 k hk, by rw [g 8 0 (by omega)]; exact hw.2.2.2.2.2.2, by rw [g 8 0 (by omega)]; exact w2, by rw [h22]; exact w3⟩ (by rw [e2, gsI_s]; rfl)
end G9
section G9M
variable {l : Launch} {D : gD} {d : Nat} {μ : gMem} {σ : sV} {x1 : Int32}
theorem goM_loop {Γ : gC} {q : Int32 → gMem → Prop} {m : Nat} {A : wEnv} {S : pplS} {n dy : Nat} {rain x w0 : Int32} {μ0 : gMem} (hd : 6 ≤ d) (h51 : μ0.1 10 0 51 = 0) (hr : μ0.1 707 0 7 = rain) (hr0 : 0 ≤ rain.toInt) (hm : m ≤ 99) (hdy : dy ≤ 9900)
    (hq : ∀ μ', mwFr 0 μ0 μ' → wM μ' n 0 A 0 (runD A rain dy S x m) (dy + m) → μ'.1 738 0 0 = wdF rain x w0 m → μ'.1 739 0 0 = nxF rain m x → q (nI (dy + m)) μ') :
    ∀ (c j : Nat) (μ : gMem), j + c = m → mwFr 0 μ0 μ → wM μ n 0 A 0 (runD A rain dy S x j) (dy + j) → μ.1 738 0 0 = wdF rain x w0 j → μ.1 739 0 0 = nxF rain j x → pt_X10_go_2 l D d q Γ 0 (nI m) (nI j) μ := by
  intro c
  induction c with
  | zero =>
    intro j μ hj hF hw h2 h3
    obtain rfl : j = m := by omega
    refine bl_X10_go_2 (by decide) ⟨fun _ => ?_, fun z => absurd (nI_le (Nat.le_refl _) (by omega)) z⟩
    rw [hw.2.2.2.2.2.2]
    exact hq μ hF hw h2 h3
  | succ c ih =>
    intro j μ hj hF hw h2 h3
    have g51 : μ.1 10 0 51 = 0 := by rw [hF.2.2.2.2.1 51 (by omega) (by omega)]; exact h51
    have g7 : μ.1 707 0 7 = rain := by rw [hF.1 707 0 (by omega) (by omega)]; exact hr
    refine bl_X10_go_2 (by decide) ⟨fun z => absurd z (nI_ge (by omega) (by omega)), fun _ => ⟨5, _, by omega, d_draw (m := 0) (by omega) (by decide) hw (by omega) (by omega) g51 g7 hr0 h3, ?_⟩⟩
    rintro μ1 ⟨hF1, hw1, x1, w1⟩ _ rfl
    rw [nI_1]
    refine ih (j + 1) μ1 (by omega) (hF.tr hF1) hw1 ?_ x1
    rw [w1, h2]
    rfl
theorem c_X10_go (hd : 6 ≤ d) (h : mSt μ σ) (hO : sOkS σ) : Ctr l D d yX10_go cX10_go 3 (some .int) [.ref (D.2.2 10 0), .int x1] μ (pI (fun v μ' => v = goV σ x1 ∧ mSt μ' (goS σ x1) ∧ cKp μ μ')) := by
  obtain ⟨v1, v2, v3, v4, v5, v6, v7⟩ := hO.2.1
  have h5 := hO.1.1.1
  refine en_X10_go (fun Γ => bl_X10_go_0 (by decide) ?_)
  rintro μ0 e0
  obtain ⟨h1, hK⟩ : mSt μ0 σ ∧ cKp μ μ0 := by rw [e0]; exact h.th hO
  clear e0
  have hW := h1.2.2.1
  have no : ¬ goP σ x1 → (-1 : Int32) = goV σ x1 ∧ mSt μ0 (goS σ x1) ∧ cKp μ μ0 := fun z => ⟨by rw [goV, if_neg z], by rw [goS, if_neg (fun w => z w.1)]; exact h1, hK⟩
  by_cases hx0 : x1.toInt < 0
  · rw [lt0]
    exact ⟨fun _ => no (fun w => by have := w.1; omega), fun z => absurd hx0 z⟩
  by_cases hx9 : 99 < x1.toInt
  · rw [lt0, gtL (z := 99) (by decide)]
    exact ⟨fun z => absurd z hx0, fun _ => ⟨fun _ => no (fun w => by have := w.1; omega), fun z => absurd hx9 z⟩⟩
  have z1 : inR x1 0 99 := by omega
  obtain ⟨n1, n2⟩ := inR_ix (b := 99) z1
  have xi : x1.toInt = (ix x1 : Int) := by unfold ix; omega
  have e1 : μ0.1 737 0 0 + x1 ≤ (9900 : Int32) ↔ (σ.2.1.2.2.1 : Int) + x1.toInt ≤ 9900 := by
    rw [hW.2.2.1, i32_le, fb_addI (by rw [nI_toInt (by omega)]; omega) (by rw [nI_toInt (by omega)]; omega), nI_toInt (by omega), show (9900 : Int32).toInt = 9900 by decide]
  rw [lt0, gtL (z := 99) (by decide), e1]
  refine ⟨fun z => absurd z hx0, fun _ => ⟨fun z => absurd z hx9, fun _ => ⟨fun z2 => ?_, fun z => no (fun w => z w.2)⟩⟩⟩
  have hP : goP σ x1 := ⟨z1, z2⟩
  -- the days
  have run : ∀ μ1, mSt μ1 (if ix x1 = 0 then σ else (σ.1, σ.2.1, σ.2.2.1, σ.2.2.2.1, (0, (fun _ => σ.2.1), σ.2.2.2.2.1.2.2), σ.2.2.2.2.2)) → cKp μ μ1 → pt_X10_go_1 l D d (fun v μ' => v = goV σ x1 ∧ mSt μ' (goS σ x1) ∧ cKp μ μ') Γ 0 x1 μ1 := by
    intro μ1 hs hK1
    have hb : mSt μ1 (σ.1, σ.2.1, σ.2.2.1, σ.2.2.2.1, (if ix x1 = 0 then σ.2.2.2.2.1 else (0, (fun _ => σ.2.1), σ.2.2.2.2.1.2.2)), σ.2.2.2.2.2) := by
      by_cases m0 : ix x1 = 0
      · rw [if_pos m0] at hs ⊢; exact hs
      · rw [if_neg m0] at hs ⊢; exact hs
    have hW1 := hb.2.2.1
    have hok : sOkS (σ.1, σ.2.1, σ.2.2.1, σ.2.2.2.1, (if ix x1 = 0 then σ.2.2.2.2.1 else (0, (fun _ => σ.2.1), σ.2.2.2.2.1.2.2)), σ.2.2.2.2.2) := by
      refine ⟨hO.1, hO.2.1, hO.2.2.1, hO.2.2.2.1, ?_, hO.2.2.2.2.2⟩
      by_cases m0 : ix x1 = 0
      · show unOk _ _ _ (if ix x1 = 0 then σ.2.2.2.2.1 else _)
        rw [if_pos m0]; exact hO.2.2.2.2.1
      · show unOk _ _ _ (if ix x1 = 0 then σ.2.2.2.2.1 else _)
        rw [if_neg m0]; exact ⟨Nat.zero_le _, rfl, fun k hk => absurd hk (Nat.not_lt_zero k)⟩
    have hn1 : nM μ1 σ.1.2.1 (eA σ) σ.2.1.1 σ.2.1.2.2.1 := hb.nM hok
    refine bl_X10_go_1 (by decide) ?_
    rintro _ rfl
    have := goM_loop (l := l) (D := D) (d := d) (Γ := Γ) (q := fun v μ' => v = goV σ x1 ∧ mSt μ' (goS σ x1) ∧ cKp μ μ') (m := ix x1) (A := eA σ) (S := σ.2.1.1) (n := σ.1.2.1) (dy := σ.2.1.2.2.1) (rain := σ.1.2.2.2.2.2.2.2.1) (x := σ.2.1.2.2.2.2) (w0 := σ.2.1.2.2.2.1) (μ0 := μ1) hd hb.1.1 hb.2.1.2.2.2.2.2.1 hO.1.2.2.2.2.2.1.1 n2 v5 ?_ (ix x1) 0 μ1 (by omega) mwFr.rf hn1.1 hW1.2.2.2.1 hW1.2.2.2.2
    · rw [← n1] at this
      exact this
    · intro μ' hF hw w2 w3
      have far : ∀ mm V, 0 < mm → hM μ1 (eMen σ.1.1) mm V → hM μ' (eMen σ.1.1) mm V := fun mm V hmm hh => hh.of (fun k a b z c e => hF.2.1 k a b z (by omega)) (fun z _ _ => by rw [hF.1 751 0 (by omega) (by omega)]) (fun k a b => hF.2.2.1 k a b mm (by omega))
      have hWn : hM μ' (eMen σ.1.1) 0 (goVn σ (ix x1)) := by
        refine ⟨fun k hk j hj => ?_, fun k hk j hj => ?_, hw.2.2.2.2.2.2, w2, w3⟩
        · show μ'.1 (mkk j) 0 (5 * 0 + k) = runD (eA σ) _ _ _ _ (ix x1) k j
          by_cases j10 : j = 10
          · subst j10
            rw [runD_hi (by omega)]
            show μ'.1 747 0 (5 * 0 + k) = _
            rw [hF.2.2.2.1]
            exact hW1.1 k hk 10 (by omega)
          · exact hw.row (A := eA σ) hk (by omega)
        · rw [hF.1 751 0 (by omega) (by omega)]
          exact hW1.2.1 k hk j hj
      have hK2 : cKp μ μ' := hK1.tr ⟨fun k j a b => hF.1 k j (by omega) (by omega), hF.2.2.2.2.2.1, fun k j a => hF.2.2.2.2.2.2 k j (by omega) (by omega)⟩
      have e10 : ∀ j, ¬ j = 32 → ¬ j = 48 → μ'.1 10 0 j = μ1.1 10 0 j := hF.2.2.2.2.1
      obtain ⟨a1, a2, a3, a4, a5, a6, a7⟩ := hb
      have base : mSt μ' (σ.1, goVn σ (ix x1), σ.2.2.1, σ.2.2.2.1, (if ix x1 = 0 then σ.2.2.2.2.1 else (0, (fun _ => σ.2.1), σ.2.2.2.2.1.2.2)), σ.2.2.2.2.2) := ⟨by rw [e10 51 (by omega) (by omega), e10 52 (by omega) (by omega)]; exact a1, a2.of (fun k hk => hF.1 k 0 (by omega) (by omega)), hWn, a4.of (fun k hk => hF.1 k 0 (by omega) (by omega)) (fun j hj => e10 j (by omega) (by omega)), a5.of (e10 49 (by omega) (by omega)) (fun V => far 2 V (by omega)), ⟨by rw [e10 50 (by omega) (by omega)]; exact a6.1, fun k hk => far _ _ (by omega) (a6.2 k hk)⟩, a7.of (fun j hj => e10 j (by omega) (by omega)) (hF.1 705 0 (by omega) (by omega))⟩
      refine ⟨by rw [goV, if_pos hP], ?_, hK2⟩
      by_cases m0 : ix x1 = 0
      · rw [goS, if_neg (fun w => w.2 m0)]
        rw [if_pos m0, m0] at base
        exact base
      · rw [goS, if_pos ⟨hP, m0⟩]
        rw [if_neg m0] at base
        exact ⟨base.1, base.2.1, base.2.2.1, base.2.2.2.1, base.2.2.2.2.1, ⟨base.2.2.2.2.2.1.1, fun k hk => absurd hk (Nat.not_lt_zero k)⟩, base.2.2.2.2.2.2⟩
  have le0 : x1 ≤ 0 ↔ x1.toInt ≤ 0 := by rw [i32_le, i32_0]
  rw [le0]
  refine ⟨fun z => run μ0 (by rw [if_pos (by omega)]; exact h1) hK, fun z => ?_⟩
  rintro μ1 e1
  refine run μ1 ?_ (by rw [e1]; exact hK.put (by omega))
  rw [if_neg (by omega)]
  have hw : ∀ mm V, hM μ0 (eMen σ.1.1) mm V → hM μ1 (eMen σ.1.1) mm V := fun mm V hh => by rw [e1]; exact hM_10 hh
  exact mSt_now h1 (fun k j a b => by rw [e1, gsI_off (by omega)]) (fun j a _ => by rw [e1, gsI_at, if_neg (by omega)]) (fun V => hw 2 V) (hw 0 _ h1.2.2.1) ⟨by rw [e1, gsI_s]; rfl, fun k hk => absurd hk (Nat.not_lt_zero k)⟩
end G9M
