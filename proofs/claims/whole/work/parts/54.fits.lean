/-! notes and fits -/
/-- strikes; days, persons, steps, whether at least -/
abbrev nTV : Type := (Nat → Int32) × (Nat → Int32) × (Nat → Int32) × (Nat → Int32) × (Nat → Int32)
def ntC (μ : gMem) (kn : Nat) (N : nTV) : Prop := fkn (μ.1 3 0 7) (μ.1 3 0 6) = nI kn ∧ kn ≤ 24 ∧ ∀ k, k < kn → μ.1 260 0 k = N.1 k ∧ (N.1 k = -1 → μ.1 256 0 k = N.2.1 k ∧ μ.1 257 0 k = N.2.2.1 k ∧ μ.1 258 0 k = N.2.2.2.1 k ∧ μ.1 259 0 k = N.2.2.2.2 k)
def ntM (μ : gMem) (kn : Nat) (N : nTV) : Prop := fkn (μ.1 10 0 56) (μ.1 10 0 55) = nI kn ∧ kn ≤ 24 ∧ ∀ k, k < kn → μ.1 765 0 k = N.1 k ∧ (N.1 k = -1 → μ.1 761 0 k = N.2.1 k ∧ μ.1 762 0 k = N.2.2.1 k ∧ μ.1 763 0 k = N.2.2.2.1 k ∧ μ.1 764 0 k = N.2.2.2.2 k)
def ntOk (men kn : Nat) (N : nTV) : Prop := ∀ k, k < kn → (N.1 k = -1 ∧ (∃ p, p < men ∧ N.2.2.1 k = nI p) ∧ 0 ≤ (N.2.1 k).toInt ∧ (N.2.1 k).toInt ≤ 40) ∨ ∃ j, j < k ∧ N.1 k = nI j
/-- what is struck: from the last on -/
def skF (st : Nat → Int32) : Nat → (Nat → Int32) → (Nat → Int32)
  | 0, f => f
  | k + 1, f => skF st k (if f k = 0 ∧ ¬ st k = -1 then (fun j => if j = ix (st k) then 1 else f j) else f)
def flN (N : nTV) (kn : Nat) : Nat → Int32 := skF N.1 kn (fun _ => 0)
abbrev okN (N : nTV) (kn k : Nat) : Prop := N.1 k = -1 ∧ flN N kn k = 0
noncomputable def lstL (N : nTV) (kn : Nat) : Nat → Nat → Int32 → Int32
  | 0, _, a => a
  | c + 1, k, a => lstL N kn c (k + 1) (if okN N kn k then imax a (N.2.1 k) else a)
abbrev agP (N : nTV) (kn : Nat) (x : Int32) (S : pplS) : Prop := ∀ k, k < kn → (okN N kn k → N.2.1 k = x → (if S (ix (N.2.2.1 k)) 6 < N.2.2.2.1 k then (0 : Int32) else 1) = N.2.2.2.2 k)
theorem nar0 : vp_nar .boolean (0 : Int32) = 0 := by decide
theorem nar1 : vp_nar .boolean (1 : Int32) = 1 := by decide
theorem m1s (x : Int32) : x + (-1) = x - 1 := (Int32.sub_eq_add_neg x 1).symm
section N1
variable {l : Launch} {D : gD} {d : Nat} {μ : gMem} {kn men : Nat} {N : nTV}
def rowF (k0 : Nat) (μ μ' : gMem) : Prop := (∀ k i, ¬ (k = k0 ∧ i = 0) → μ'.1 k i = μ.1 k i) ∧ μ'.2 = μ.2
theorem rowF.rf {k0 : Nat} : rowF k0 μ μ := ⟨fun _ _ _ => rfl, rfl⟩
theorem rowF.put {k0 : Nat} {μ1 : gMem} (h : rowF k0 μ μ1) (j : Nat) (v : Int32) : rowF k0 μ (gsI μ1 k0 0 j v) := ⟨fun k i hk => by rw [gsI_off hk]; exact h.1 k i hk, h.2⟩
theorem ntC.row {μ' : gMem} (h : ntC μ kn N) (hF : rowF 261 μ μ') : ntC μ' kn N := by
  unfold ntC
  rw [hF.1 3 0 (by omega), hF.1 260 0 (by omega), hF.1 256 0 (by omega), hF.1 257 0 (by omega), hF.1 258 0 (by omega), hF.1 259 0 (by omega)]
  exact h
theorem ntM.row {μ' : gMem} (h : ntM μ kn N) (hF : rowF 766 μ μ') : ntM μ' kn N := by
  unfold ntM
  rw [hF.1 10 0 (by omega), hF.1 765 0 (by omega), hF.1 761 0 (by omega), hF.1 762 0 (by omega), hF.1 763 0 (by omega), hF.1 764 0 (by omega)]
  exact h
theorem struck_2 {Γ : gC} {q : gMem → Prop} {μ0 : gMem} (hN : ntC μ0 kn N) (hO : ntOk men kn N) (hq : ∀ μ', rowF 261 μ0 μ' → (∀ z, z < kn → μ'.1 261 0 z = flN N kn z) → q μ') :
    ∀ (k : Nat) (μ : gMem) (f : Nat → Int32), k ≤ kn → rowF 261 μ0 μ → (∀ z, z < kn → μ.1 261 0 z = f z) → skF N.1 k f = flN N kn → pt_X3_findStruck_2 l D d q Γ 0 (nI k - 1) μ := by
  intro k
  induction k with
  | zero =>
    intro μ f _ hF hf hs
    refine bl_X3_findStruck_2 (by decide) ⟨fun _ => hq μ hF (fun z hz => ?_), fun z => absurd (by decide) z⟩
    rw [hf z hz, ← hs]
    rfl
  | succ k ih =>
    intro μ f hk hF hf hs
    have h24 := hN.2.1
    have e260 : μ.1 260 0 k = N.1 k := by rw [hF.1 260 0 (by omega)]; exact (hN.2.2 k (by omega)).1
    rw [nI_pred]
    rw [skF] at hs
    refine bl_X3_findStruck_2 (by decide) ⟨fun z => absurd z (nI_pos (by omega)), fun _ => ⟨k, by omega, rfl, ?_⟩⟩
    rw [hf k (by omega)]
    refine ⟨fun h1 => bl_X3_findStruck_3 (by decide) ?_, fun h1 => ⟨k, by omega, rfl, ?_⟩⟩
    · rintro _ rfl
      rw [m1s]
      rw [if_neg (fun w => h1 w.1)] at hs
      exact ih μ f (by omega) hF hf hs
    · rw [e260]
      refine ⟨fun h2 => bl_X3_findStruck_3 (by decide) ?_, fun h2 => ⟨k, by omega, rfl, ?_⟩⟩
      · rintro _ rfl
        rw [m1s]
        rw [if_neg (fun w => w.2 h2)] at hs
        exact ih μ f (by omega) hF hf hs
      · rw [e260]
        rcases hO k (by omega) with w | ⟨j, hj, ej⟩
        · exact absurd w.1 h2
        · refine ⟨j, by omega, ej, ?_⟩
          rw [nar1]
          rintro μ1 e1
          refine bl_X3_findStruck_3 (by decide) ?_
          rintro _ rfl
          rw [m1s]
          rw [if_pos ⟨h1, h2⟩] at hs
          refine ih μ1 _ (by omega) (by rw [e1]; exact hF.put _ _) (fun z hz => ?_) hs
          rw [e1, gsI_row]
          show (if z = j then (1 : Int32) else μ.1 261 0 z) = if z = ix (N.1 k) then 1 else f z
          rw [ix_eq ej (by omega), hf z hz]
theorem struck_1 {Γ : gC} {q : gMem → Prop} {μ0 : gMem} (hd : 1 ≤ d) (hN : ntC μ0 kn N) (hO : ntOk men kn N) (hq : ∀ μ', rowF 261 μ0 μ' → (∀ z, z < kn → μ'.1 261 0 z = flN N kn z) → q μ') :
    ∀ (c j : Nat) (μ : gMem), j + c = 24 → rowF 261 μ0 μ → (∀ z, z < j → μ.1 261 0 z = 0) → pt_X3_findStruck_1 l D d q Γ 0 (nI j) μ := by
  have e24 : (24 : Int32) = nI 24 := rfl
  intro c
  induction c with
  | zero =>
    intro j μ hj hF hz
    refine bl_X3_findStruck_1 (by decide) ⟨fun _ => ⟨by omega, ?_⟩, fun z => absurd (by rw [e24]; exact nI_le (by omega) (by omega)) z⟩
    have hN1 := hN.row hF
    rw [hN1.1]
    rintro _ rfl
    have h24 := hN.2.1
    exact struck_2 hN hO hq kn μ (fun _ => 0) (Nat.le_refl _) hF (fun z hk => hz z (by omega)) rfl
  | succ c ih =>
    intro j μ hj hF hz
    refine bl_X3_findStruck_1 (by decide) ⟨fun z => absurd z (by rw [e24]; exact nI_ge (by omega) (by omega)), fun _ => ⟨j, by omega, rfl, ?_⟩⟩
    rw [nar0]
    rintro μ1 e1 _ rfl
    rw [nI_1]
    refine ih (j + 1) μ1 (by omega) (by rw [e1]; exact hF.put _ _) (fun z hk => ?_)
    rw [e1, gsI_row]
    show (if z = j then (0 : Int32) else μ.1 261 0 z) = 0
    split
    · rfl
    · exact hz z (by omega)
theorem c_X3_findStruck (hd : 1 ≤ d) (hN : ntC μ kn N) (hO : ntOk men kn N) : Ctr l D d yX3_findStruck cX3_findStruck 2 none [.ref (D.2.2 3 0)] μ (pV (fun μ' => rowF 261 μ μ' ∧ ∀ z, z < kn → μ'.1 261 0 z = flN N kn z)) := by
  refine en_X3_findStruck (fun Γ => bl_X3_findStruck_0 (by decide) ?_)
  rintro _ rfl
  exact struck_1 hd hN hO (fun μ' a b => ⟨a, b⟩) 24 0 μ (by omega) rowF.rf (fun z hz => by omega)
theorem c_X3_isKnown {k : Nat} (hk : k < kn) (hN : ntC μ kn N) (hf : ∀ z, z < kn → μ.1 261 0 z = flN N kn z) : Ctr l D d yX3_isKnown cX3_isKnown 2 (some .boolean) [.ref (D.2.2 3 0), .int (nI k)] μ (pI (fun v μ' => v = bI (okN N kn k) ∧ μ' = μ)) := by
  have h24 := hN.2.1
  refine en_X3_isKnown (fun Γ => bl_X3_isKnown_0 (by decide) ⟨k, by omega, rfl, ?_⟩)
  rw [(hN.2.2 k hk).1]
  refine ⟨fun z => ⟨by rw [bI, if_neg (fun w => z w.1)], rfl⟩, fun z => ⟨k, by omega, rfl, ?_⟩⟩
  rw [hf k hk]
  exact ⟨fun z2 => ⟨by rw [bI, if_neg (fun w => z2 w.2)], rfl⟩, fun z2 => ⟨by rw [bI, if_pos ⟨z, z2⟩], rfl⟩⟩
theorem lastDay_loop {Γ : gC} {q : Int32 → gMem → Prop} {v : Int32} (hd : 1 ≤ d) (hN : ntC μ kn N) (hf : ∀ z, z < kn → μ.1 261 0 z = flN N kn z) (hq : q v μ) :
    ∀ (c k : Nat) (a : Int32), k + c = kn → lstL N kn c k a = v → pt_X3_lastDay_1 l D d q Γ 0 a (nI k) μ := by
  have h24 := hN.2.1
  intro c
  induction c with
  | zero =>
    intro k a hk hv
    refine bl_X3_lastDay_1 (by decide) ?_
    rw [hN.1]
    refine ⟨by omega, fun _ => ?_, fun z => absurd (nI_le (by omega) (by omega)) z⟩
    rw [show a = v from hv]
    exact hq
  | succ c ih =>
    intro k a hk hv
    refine bl_X3_lastDay_1 (by decide) ?_
    rw [hN.1]
    refine ⟨by omega, fun z => absurd z (nI_ge (by omega) (by omega)), fun _ => ⟨0, _, by omega, c_X3_isKnown (by omega) hN hf, ?_⟩⟩
    rintro v1 μ1 ⟨rfl, rfl⟩
    rw [lstL] at hv
    by_cases ho : okN N kn k
    · rw [if_pos ho] at hv
      rw [bI, if_pos ho]
      refine ⟨fun z => absurd z (by decide), fun _ => ⟨k, by omega, rfl, by omega, ?_⟩⟩
      rw [((hN.2.2 k (by omega)).2 ho.1).1]
      rintro _ rfl
      refine bl_X3_lastDay_2 (by decide) ?_
      rintro _ rfl
      rw [nI_1]
      exact ih (k + 1) _ (by omega) hv
    · rw [if_neg ho] at hv
      rw [bI, if_neg ho]
      refine ⟨fun _ => bl_X3_lastDay_2 (by decide) ?_, fun z => absurd rfl z⟩
      rintro _ rfl
      rw [nI_1]
      exact ih (k + 1) _ (by omega) hv
theorem c_X3_lastDay (hd : 1 ≤ d) (hN : ntC μ kn N) (hf : ∀ z, z < kn → μ.1 261 0 z = flN N kn z) : Ctr l D d yX3_lastDay cX3_lastDay 3 (some .int) [.ref (D.2.2 3 0)] μ (pI (fun v μ' => v = lstL N kn kn 0 0 ∧ μ' = μ)) := by
  refine en_X3_lastDay (fun Γ => bl_X3_lastDay_0 (by decide) ?_)
  rintro _ rfl _ rfl
  exact lastDay_loop hd hN hf (v := lstL N kn kn 0 0) ⟨rfl, rfl⟩ kn 0 0 (by omega) rfl
theorem agree_loop {Γ : gC} {q : Int32 → gMem → Prop} {x : Int32} {S : pplS} (hd : 1 ≤ d) (hm : men ≤ 5) (hN : ntC μ kn N) (hO : ntOk men kn N) (hf : ∀ z, z < kn → μ.1 261 0 z = flN N kn z) (hr : ∀ p, p < men → μ.1 4 (10 + p) 6 = S p 6) (hq : q (bI (agP N kn x S)) μ) :
    ∀ (c k : Nat), k + c = kn → (∀ j, j < k → (okN N kn j → N.2.1 j = x → (if S (ix (N.2.2.1 j)) 6 < N.2.2.2.1 j then (0 : Int32) else 1) = N.2.2.2.2 j)) → pt_X3_agree_1 l D d q Γ 0 x 2 (nI k) μ := by
  have h24 := hN.2.1
  intro c
  induction c with
  | zero =>
    intro k hk hj
    refine bl_X3_agree_1 (by decide) (by decide) ?_
    rw [hN.1]
    refine ⟨by omega, fun _ => ?_, fun z => absurd (nI_le (by omega) (by omega)) z⟩
    rw [bI, if_pos (show agP N kn x S from fun j hj2 => hj j (by omega))] at hq
    exact hq
  | succ c ih =>
    intro k hk hj
    have nx : (okN N kn k → N.2.1 k = x → (if S (ix (N.2.2.1 k)) 6 < N.2.2.2.1 k then (0 : Int32) else 1) = N.2.2.2.2 k) → pt_X3_agree_3 l D d q Γ 0 x 2 (nI k) μ := by
      intro hh
      refine bl_X3_agree_3 (by decide) (by decide) ?_
      rintro _ rfl
      rw [nI_1]
      refine ih (k + 1) (by omega) (fun j hj2 => ?_)
      by_cases e : j = k
      · subst e; exact hh
      · exact hj j (by omega)
    refine bl_X3_agree_1 (by decide) (by decide) ?_
    rw [hN.1]
    refine ⟨by omega, fun z => absurd z (nI_ge (by omega) (by omega)), fun _ => ⟨0, _, by omega, c_X3_isKnown (by omega) hN hf, ?_⟩⟩
    rintro v1 μ1 ⟨rfl, rfl⟩
    by_cases ho : okN N kn k
    · rw [bI, if_pos ho]
      refine ⟨fun z => absurd z (by decide), fun _ => ⟨k, by omega, rfl, ?_⟩⟩
      obtain ⟨a1, a2, a3, a4⟩ := (hN.2.2 k (by omega)).2 ho.1
      obtain ⟨p, hp, ep⟩ : ∃ p, p < men ∧ N.2.2.1 k = nI p := by
        rcases hO k (by omega) with w | ⟨j, hj3, ej⟩
        · exact w.2.1
        · exact absurd (ej.symm.trans ho.1) (nI_nm1 (by omega))
      rw [a1]
      refine ⟨fun z => nx (fun _ w => absurd w z), fun z => ⟨k, by omega, rfl, p, by omega, by rw [a2]; exact ep, k, by omega, rfl, ?_⟩⟩
      have er : μ1.1 4 (5 * 2 + p) 6 = S (ix (N.2.2.1 k)) 6 := by rw [show 5 * 2 + p = 10 + p by omega, hr p hp, ix_eq ep (by omega)]
      rw [er, a3]
      have at2 : ∀ v : Int32, v = (if S (ix (N.2.2.1 k)) 6 < N.2.2.2.1 k then (0 : Int32) else 1) → pt_X3_agree_2 l D d q Γ 0 x 2 (nI k) v μ1 := by
        intro v hv
        refine bl_X3_agree_2 (by decide) (by decide) ⟨k, by omega, rfl, ?_⟩
        rw [a4]
        refine ⟨fun w => nx (fun _ _ => by rw [← hv]; exact w), fun w => ?_⟩
        rw [bI, if_neg (show ¬ agP N kn x S from fun ha => w (by rw [hv]; exact ha k (by omega) ho z))] at hq
        exact hq
      exact ⟨fun w => at2 0 (by rw [if_pos w]), fun w => at2 1 (by rw [if_neg w])⟩
    · rw [bI, if_neg ho]
      exact ⟨fun _ => nx (fun w => absurd w ho), fun z => absurd rfl z⟩
theorem c_X3_agree {x : Int32} {S : pplS} (hd : 1 ≤ d) (hm : men ≤ 5) (hN : ntC μ kn N) (hO : ntOk men kn N) (hf : ∀ z, z < kn → μ.1 261 0 z = flN N kn z) (hr : ∀ p, p < men → μ.1 4 (10 + p) 6 = S p 6) : Ctr l D d yX3_agree cX3_agree 4 (some .boolean) [.ref (D.2.2 3 0), .int x, .ref (D.2.2 8 2)] μ (pI (fun v μ' => v = bI (agP N kn x S) ∧ μ' = μ)) := by
  refine en_X3_agree (fun Γ => bl_X3_agree_0 (by decide) (by decide) ?_)
  rintro _ rfl
  exact agree_loop hd hm hN hO hf hr ⟨rfl, rfl⟩ kn 0 (by omega) (fun j hj => by omega)
theorem isSo_loop {Γ : gC} {q : Int32 → gMem → Prop} {x : Int32} {S : pplS} (hd : 1 ≤ d) (hm : men ≤ 5) (hN : ntM μ kn N) (hO : ntOk men kn N) (hf : ∀ z, z < kn → μ.1 766 0 z = flN N kn z) (hr : ∀ p, p < men → μ.1 746 0 (5 + p) = S p 6) (hq : q (bI (agP N kn x S)) μ) :
    ∀ (c k : Nat), k + c = kn → (∀ j, j < k → (okN N kn j → N.2.1 j = x → (if S (ix (N.2.2.1 j)) 6 < N.2.2.2.1 j then (0 : Int32) else 1) = N.2.2.2.2 j)) → pt_X10_isSo_1 l D d q Γ 0 x (nI k) μ := by
  have h24 := hN.2.1
  intro c
  induction c with
  | zero =>
    intro k hk hj
    refine bl_X10_isSo_1 (by decide) ?_
    rw [hN.1]
    refine ⟨by omega, fun _ => ?_, fun z => absurd (nI_le (by omega) (by omega)) z⟩
    rw [bI, if_pos (show agP N kn x S from fun j hj2 => hj j (by omega))] at hq
    exact hq
  | succ c ih =>
    intro k hk hj
    have nx : (okN N kn k → N.2.1 k = x → (if S (ix (N.2.2.1 k)) 6 < N.2.2.2.1 k then (0 : Int32) else 1) = N.2.2.2.2 k) → pt_X10_isSo_3 l D d q Γ 0 x (nI k) μ := by
      intro hh
      refine bl_X10_isSo_3 (by decide) ?_
      rintro _ rfl
      rw [nI_1]
      refine ih (k + 1) (by omega) (fun j hj2 => ?_)
      by_cases e : j = k
      · subst e; exact hh
      · exact hj j (by omega)
    refine bl_X10_isSo_1 (by decide) ?_
    rw [hN.1]
    refine ⟨by omega, fun z => absurd z (nI_ge (by omega) (by omega)), fun _ => ⟨k, by omega, rfl, ?_⟩⟩
    rw [hf k (by omega)]
    refine ⟨fun z => nx (fun w => absurd w.2 z), fun z1 => ⟨k, by omega, rfl, ?_⟩⟩
    rw [(hN.2.2 k (by omega)).1]
    refine ⟨fun z => nx (fun w => absurd w.1 z), fun z2 => ⟨k, by omega, rfl, ?_⟩⟩
    have ho : okN N kn k := ⟨z2, z1⟩
    obtain ⟨a1, a2, a3, a4⟩ := (hN.2.2 k (by omega)).2 z2
    obtain ⟨p, hp, ep⟩ : ∃ p, p < men ∧ N.2.2.1 k = nI p := by
      rcases hO k (by omega) with w | ⟨j, hj3, ej⟩
      · exact w.2.1
      · exact absurd (ej.symm.trans z2) (nI_nm1 (by omega))
    rw [a1]
    refine ⟨fun z => ⟨k, by omega, rfl, 5 + p, by omega, by rw [a2, ep]; exact ix5c p, k, by omega, rfl, ?_⟩, fun z => nx (fun _ w => absurd w z)⟩
    rw [hr p hp, a3]
    have er : S p 6 = S (ix (N.2.2.1 k)) 6 := by rw [ix_eq ep (by omega)]
    rw [er]
    have at2 : ∀ v : Int32, v = (if S (ix (N.2.2.1 k)) 6 < N.2.2.2.1 k then (0 : Int32) else 1) → pt_X10_isSo_2 l D d q Γ 0 x (nI k) v μ := by
      intro v hv
      refine bl_X10_isSo_2 (by decide) ⟨k, by omega, rfl, ?_⟩
      rw [a4]
      refine ⟨fun w => nx (fun _ _ => by rw [← hv]; exact w), fun w => ?_⟩
      rw [bI, if_neg (show ¬ agP N kn x S from fun ha => w (by rw [hv]; exact ha k (by omega) ho z))] at hq
      exact hq
    exact ⟨fun w => at2 0 (by rw [if_pos w]), fun w => at2 1 (by rw [if_neg w])⟩
theorem c_X10_isSo {x : Int32} {S : pplS} (hd : 1 ≤ d) (hm : men ≤ 5) (hN : ntM μ kn N) (hO : ntOk men kn N) (hf : ∀ z, z < kn → μ.1 766 0 z = flN N kn z) (hr : ∀ p, p < men → μ.1 746 0 (5 + p) = S p 6) : Ctr l D d yX10_isSo cX10_isSo 3 (some .boolean) [.ref (D.2.2 10 0), .int x] μ (pI (fun v μ' => v = bI (agP N kn x S) ∧ μ' = μ)) := by
  refine en_X10_isSo (fun Γ => bl_X10_isSo_0 (by decide) ?_)
  rintro _ rfl
  exact isSo_loop hd hm hN hO hf hr ⟨rfl, rfl⟩ kn 0 (by omega) (fun j hj => by omega)
end N1
theorem lstL_rng {N : nTV} {kn men : Nat} (hO : ntOk men kn N) (h24 : kn ≤ 24) : ∀ (c k : Nat) (a : Int32), k + c = kn → 0 ≤ a.toInt → a.toInt ≤ 40 → 0 ≤ (lstL N kn c k a).toInt ∧ (lstL N kn c k a).toInt ≤ 40 := by
  intro c
  induction c with
  | zero => intro k a _ h1 h2; exact ⟨h1, h2⟩
  | succ c ih =>
    intro k a hk h1 h2
    rw [lstL]
    by_cases ho : okN N kn k
    · rw [if_pos ho]
      have hd : 0 ≤ (N.2.1 k).toInt ∧ (N.2.1 k).toInt ≤ 40 := by
        rcases hO k (by omega) with w | ⟨j, hj3, ej⟩
        · exact w.2.2
        · exact absurd (ej.symm.trans ho.1) (nI_nm1 (by omega))
      refine ih (k + 1) _ (by omega) ?_ ?_ <;> rw [imax_toInt] <;> split <;> omega
    · rw [if_neg ho]
      exact ih (k + 1) a (by omega) h1 h2
