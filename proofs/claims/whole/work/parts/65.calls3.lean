/-! note, out, known -/
def upN (f : Nat → Int32) (s : Nat) (x : Int32) : Nat → Int32 := fun k => if k = s then x else f k
theorem upN_s {f : Nat → Int32} {s : Nat} {x : Int32} : upN f s x s = x := if_pos rfl
theorem upN_o {f : Nat → Int32} {s k : Nat} {x : Int32} (h : ¬ k = s) : upN f s x k = f k := if_neg h
abbrev noteP (σ : sV) (x1 x2 x3 : Int32) : Prop := inR x1 1 40 ∧ isM (eMen σ.1.1) x2 ∧ inR x3 0 99999 ∧ σ.2.2.1.1 < 24
def setN (σ : sV) (ν : Nat × Int32 × nTV) : sV := (σ.1, σ.2.1, ν, σ.2.2.2)
def noteS (σ : sV) (x1 x2 x3 x4 : Int32) : sV := if noteP σ x1 x2 x3 then setN σ (σ.2.2.1.1 + 1, σ.2.2.1.2.1, upN σ.2.2.1.2.2.1 σ.2.2.1.1 (-1), upN σ.2.2.1.2.2.2.1 σ.2.2.1.1 x1, upN σ.2.2.1.2.2.2.2.1 σ.2.2.1.1 x2, upN σ.2.2.1.2.2.2.2.2.1 σ.2.2.1.1 x3, upN σ.2.2.1.2.2.2.2.2.2 σ.2.2.1.1 (vp_nar .boolean x4)) else σ
def noteV (σ : sV) (x1 x2 x3 : Int32) : Int32 := if noteP σ x1 x2 x3 then nI σ.2.2.1.1 else -1
abbrev outP (σ : sV) (x1 : Int32) : Prop := isM σ.2.2.1.1 x1 ∧ σ.2.2.1.1 < 24
def outS (σ : sV) (x1 : Int32) : sV := if outP σ x1 then setN σ (σ.2.2.1.1 + 1, σ.2.2.1.2.1, upN σ.2.2.1.2.2.1 σ.2.2.1.1 x1, σ.2.2.1.2.2.2) else σ
def outV (σ : sV) (x1 : Int32) : Int32 := if outP σ x1 then nI σ.2.2.1.1 else -1
abbrev knowP (σ : sV) (x1 : Int32) : Prop := inR x1 (-1) σ.2.2.1.1
def knowS (σ : sV) (x1 : Int32) : sV := if knowP σ x1 then setN σ (σ.2.2.1.1, x1, σ.2.2.1.2.2) else σ
theorem noteS_ok {σ : sV} {x1 x2 x3 x4 : Int32} (h : sOkS σ) : sOkS (noteS σ x1 x2 x3 x4) := by
  unfold noteS
  split
  · rename_i hc
    obtain ⟨h1, h2, ⟨n1, n2, n3⟩, h4⟩ := h
    obtain ⟨m1, m2⟩ := isM_ix hc.2.1
    refine ⟨h1, h2, ⟨by show σ.2.2.1.1 + 1 ≤ 24; have := hc.2.2.2; omega, ?_, fun k hk => ?_⟩, h4⟩
    · rcases n2 with w | ⟨k, hk, e⟩
      · exact Or.inl w
      · exact Or.inr ⟨k, by show k ≤ σ.2.2.1.1 + 1; omega, e⟩
    · have hk : k < σ.2.2.1.1 + 1 := hk
      show (upN _ _ _ k = -1 ∧ (∃ p, p < eMen σ.1.1 ∧ upN _ _ _ k = nI p) ∧ 0 ≤ (upN _ _ _ k).toInt ∧ (upN _ _ _ k).toInt ≤ 40) ∨ ∃ j, j < k ∧ upN _ _ _ k = nI j
      by_cases e : k = σ.2.2.1.1
      · subst e
        rw [upN_s, upN_s, upN_s]
        exact Or.inl ⟨rfl, ⟨ix x2, m2, m1⟩, by have := hc.1; omega, by have := hc.1; omega⟩
      · rw [upN_o e, upN_o e, upN_o e]
        exact n3 k (by omega)
  · exact h
theorem outS_ok {σ : sV} {x1 : Int32} (h : sOkS σ) : sOkS (outS σ x1) := by
  unfold outS
  split
  · rename_i hc
    obtain ⟨h1, h2, ⟨n1, n2, n3⟩, h4⟩ := h
    obtain ⟨m1, m2⟩ := isM_ix hc.1
    refine ⟨h1, h2, ⟨by show σ.2.2.1.1 + 1 ≤ 24; have := hc.2; omega, ?_, fun k hk => ?_⟩, h4⟩
    · rcases n2 with w | ⟨k, hk, e⟩
      · exact Or.inl w
      · exact Or.inr ⟨k, by show k ≤ σ.2.2.1.1 + 1; omega, e⟩
    · have hk : k < σ.2.2.1.1 + 1 := hk
      show (upN _ _ _ k = -1 ∧ _) ∨ ∃ j, j < k ∧ upN _ _ _ k = nI j
      by_cases e : k = σ.2.2.1.1
      · subst e
        rw [upN_s]
        exact Or.inr ⟨ix x1, m2, m1⟩
      · rw [upN_o e]
        exact n3 k (by omega)
  · exact h
theorem knowS_ok {σ : sV} {x1 : Int32} (h : sOkS σ) : sOkS (knowS σ x1) := by
  unfold knowS
  split
  · rename_i hc
    obtain ⟨h1, h2, ⟨n1, n2, n3⟩, h4⟩ := h
    refine ⟨h1, h2, ⟨n1, ?_, n3⟩, h4⟩
    show x1 = -1 ∨ ∃ k, k ≤ σ.2.2.1.1 ∧ x1 = nI k
    by_cases e : x1.toInt = -1
    · exact Or.inl (Int32.toInt_inj.mp (by rw [e]; decide))
    · have hc : inR x1 (-1) σ.2.2.1.1 := hc
      exact Or.inr ⟨ix x1, by show ix x1 ≤ σ.2.2.1.1; unfold ix; omega, ix_nI (by omega)⟩
  · exact h
theorem cSt_no {μ μ2 : gMem} {t : Nat} {σ : sV} {ν : Nat × Int32 × nTV} (h : cSt μ t σ) (hG : ∀ k j, ¬ (k = 3 ∧ j = 0) → ¬ (256 ≤ k ∧ k ≤ 260 ∧ j = 0) → μ2.1 k j = μ.1 k j) (h2 : μ2.2 = μ.2) (hN : noC μ2 ν) : cSt μ2 t (setN σ ν) ∧ mKp μ μ2 := by
  obtain ⟨a1, a2, aj, a3, a4, a5, a6, a7, a8⟩ := h
  have g : ∀ k j, ¬ k = 3 → ¬ (256 ≤ k ∧ k ≤ 260) → μ2.1 k j = μ.1 k j := fun k j x y => hG k j (by omega) (by omega)
  have hw : ∀ w V, hC μ w V → hC μ2 w V := fun w V hh => hh.of (fun k _ => g 4 _ (by omega) (by omega)) (fun k _ => g 331 _ (by omega) (by omega)) ⟨by rw [g 8 w (by omega) (by omega)], by rw [g 8 w (by omega) (by omega)]⟩ (by rw [h2])
  exact ⟨⟨by rw [h2]; exact a1, by rw [g 8 0 (by omega) (by omega)]; exact a2, aj.of (fun i => g 4 i (by omega) (by omega)) (fun i => g 331 i (by omega) (by omega)), a3.of (fun k hk => g k t (by omega) (by omega)), hw 0 _ a4, hN, a6.of (by rw [g 9 0 (by omega) (by omega)]) (hw 1), a7.of (by rw [g 0 0 (by omega) (by omega)]) (fun k hk => g k 0 (by omega) (by omega)), a8.of (g 6 0 (by omega) (by omega)) (g 448 0 (by omega) (by omega)) (g 5 0 (by omega) (by omega)) (g 449 0 (by omega) (by omega))⟩, fun k j hk => g k j (by omega) (by omega)⟩
theorem mSt_no {μ μ2 : gMem} {σ : sV} {ν : Nat × Int32 × nTV} (h : mSt μ σ) (hG : ∀ k j, ¬ (k = 10 ∧ j = 0) → ¬ (761 ≤ k ∧ k ≤ 765 ∧ j = 0) → μ2.1 k j = μ.1 k j) (h10 : ∀ j, ¬ j = 55 → ¬ j = 56 → μ2.1 10 0 j = μ.1 10 0 j) (h2 : μ2.2 = μ.2) (hN : noM μ2 ν) : mSt μ2 (setN σ ν) ∧ cKp μ μ2 := by
  obtain ⟨a1, a2, a3, a4, a5, a6, a7⟩ := h
  have g : ∀ k j, ¬ k = 10 → ¬ (761 ≤ k ∧ k ≤ 765) → μ2.1 k j = μ.1 k j := fun k j x y => hG k j (by omega) (by omega)
  have hw : ∀ m V, hM μ (eMen σ.1.1) m V → hM μ2 (eMen σ.1.1) m V := fun m V hh => hh.of (fun k _ _ z _ _ => by rw [g k 0 (by omega) (by omega)]) (fun z _ _ => by rw [g 751 0 (by omega) (by omega)]) (fun k _ _ => by rw [g k 0 (by omega) (by omega)])
  exact ⟨⟨by rw [h10 51 (by omega) (by omega), h10 52 (by omega) (by omega)]; exact a1, a2.of (fun k hk => g k 0 (by omega) (by omega)), hw 0 _ a3, hN, a5.of (h10 49 (by omega) (by omega)) (hw 2), ⟨by rw [h10 50 (by omega) (by omega)]; exact a6.1, fun k hk => hw _ _ (a6.2 k hk)⟩, a7.of (fun j hj => h10 j (by omega) (by omega)) (g 705 0 (by omega) (by omega))⟩, ⟨fun k j x y => g k j (by omega) (by omega), by rw [h2], fun k j _ => by rw [h2]⟩⟩
section M5
variable {l : Launch} {D : gD} {d : Nat} {μ : gMem} {t : Nat} {σ : sV} {x1 x2 x3 x4 : Int32}
/-- what the class's notes alone change -/
def ntF (μ μ' : gMem) : Prop := (∀ k j, ¬ (k = 3 ∧ j = 0) → ¬ (256 ≤ k ∧ k ≤ 260 ∧ j = 0) → μ'.1 k j = μ.1 k j) ∧ μ'.2 = μ.2
theorem ntF.put {μ1 : gMem} {k j : Nat} {v : Int32} (h : ntF μ μ1) (hk : k = 3 ∨ 256 ≤ k ∧ k ≤ 260) : ntF μ (gsI μ1 k 0 j v) := ⟨fun a b c e => by rw [gsI_off (by omega)]; exact h.1 a b c e, h.2⟩
theorem ntF.rf : ntF μ μ := ⟨fun _ _ _ _ => rfl, rfl⟩
theorem c_X3_add {s : Nat} (hs : μ.1 3 0 6 = nI s) (h24 : s ≤ 24) : Ctr l D d yX3_add cX3_add 5 (some .int) [.ref (D.2.2 3 0), .int x1, .int x2, .int x3, .int x4] μ (pI (fun v μ' => (¬ s < 24 ∧ v = -1 ∧ μ' = μ) ∨ (s < 24 ∧ v = nI s ∧ ntF μ μ' ∧ μ'.1 3 0 6 = nI (s + 1) ∧ μ'.1 3 0 7 = μ.1 3 0 7 ∧ (μ'.1 260 0 s = -1 ∧ μ'.1 256 0 s = x1 ∧ μ'.1 257 0 s = x2 ∧ μ'.1 258 0 s = x3 ∧ μ'.1 259 0 s = vp_nar .boolean x4) ∧ ∀ k, 256 ≤ k → k ≤ 260 → ∀ z, ¬ z = s → μ'.1 k 0 z = μ.1 k 0 z))) := by
  have lt : μ.1 3 0 6 < (24 : Int32) ↔ s < 24 := by rw [hs]; exact nI_ltI (b := 24) (by omega) (by omega)
  refine en_X3_add (fun Γ => bl_X3_add_0 (by decide) ?_)
  rw [lt]
  refine ⟨fun z => ⟨s, z, hs, ?_⟩, fun z => Or.inl ⟨z, rfl, rfl⟩⟩
  rintro μ1 e1
  refine ⟨s, z, by rw [e1, gsI_off (by omega)]; exact hs, ?_⟩
  rintro μ2 e2
  refine ⟨s, z, by rw [e2, gsI_off (by omega), e1, gsI_off (by omega)]; exact hs, ?_⟩
  rintro μ3 e3
  refine ⟨s, z, by rw [e3, gsI_off (by omega), e2, gsI_off (by omega), e1, gsI_off (by omega)]; exact hs, ?_⟩
  rintro μ4 e4
  refine ⟨s, z, by rw [e4, gsI_off (by omega), e3, gsI_off (by omega), e2, gsI_off (by omega), e1, gsI_off (by omega)]; exact hs, ?_⟩
  rintro μ5 e5
  have g3 : μ5.1 3 0 = μ.1 3 0 := by rw [e5, gsI_off (by omega), e4, gsI_off (by omega), e3, gsI_off (by omega), e2, gsI_off (by omega), e1, gsI_off (by omega)]
  rw [g3, hs, nI_1]
  rintro μ6 e6
  have o : ∀ k, 256 ≤ k → k ≤ 260 → μ6.1 k 0 = μ5.1 k 0 := fun k a b => by rw [e6, gsI_off (by omega)]
  refine Or.inr ⟨z, by rw [e6, gsI_s, nI_pred], ?_, by rw [e6, gsI_s], by rw [e6, gsI_at, if_neg (by omega), g3], ⟨?_, ?_, ?_, ?_, ?_⟩, fun k a b w hw => ?_⟩
  · rw [e6, e5, e4, e3, e2, e1]
    exact (((((ntF.rf.put (by omega)).put (by omega)).put (by omega)).put (by omega)).put (by omega)).put (by omega)
  · rw [o 260 (by omega) (by omega), e5, gsI_s]
  · rw [o 256 (by omega) (by omega), e5, gsI_off (by omega), e4, gsI_off (by omega), e3, gsI_off (by omega), e2, gsI_off (by omega), e1, gsI_s]
  · rw [o 257 (by omega) (by omega), e5, gsI_off (by omega), e4, gsI_off (by omega), e3, gsI_off (by omega), e2, gsI_s]
  · rw [o 258 (by omega) (by omega), e5, gsI_off (by omega), e4, gsI_off (by omega), e3, gsI_s]
  · rw [o 259 (by omega) (by omega), e5, gsI_off (by omega), e4, gsI_s]
  · rw [o k a b, e5, gsI_at, if_neg (by omega), e4, gsI_at, if_neg (by omega), e3, gsI_at, if_neg (by omega), e2, gsI_at, if_neg (by omega), e1, gsI_at, if_neg (by omega)]
theorem c_X9_note (hd : 2 ≤ d) (h : cSt μ t σ) (hO : sOkS σ) : Ctr l D d yX9_note cX9_note 5 (some .int) [.ref (D.2.2 9 0), .int x1, .int x2, .int x3, .int x4] μ (pI (fun v μ' => v = noteV σ x1 x2 x3 ∧ cSt μ' t (noteS σ x1 x2 x3 x4) ∧ mKp μ μ')) := by
  have hn := h.nC hO
  have em : eMen (eA σ) = eMen σ.1.1 := rfl
  have hN := h.2.2.2.2.2.1
  refine en_X9_note (fun Γ => bl_X9_note_0 (by decide) ?_)
  rw [h.1.1, hn.iw, em, iw_lit (x := x1) (za := 1) (zb := 40) (by decide) (by decide), iw_lit (x := x3) (za := 0) (zb := 99999) (by decide) (by decide)]
  have no : ¬ noteP σ x1 x2 x3 → (-1 : Int32) = noteV σ x1 x2 x3 ∧ cSt μ t (noteS σ x1 x2 x3 x4) ∧ mKp μ μ := fun z => ⟨by rw [noteV, if_neg z], by rw [noteS, if_neg z]; exact h, mKp.rf⟩
  refine ⟨by omega, fun z => no (fun w => z w.1), fun z1 => ⟨by omega, h.1.2.1, fun z => no (fun w => z w.2.1), fun z2 => ⟨by omega, fun z3 => ?_, fun z => no (fun w => z w.2.2.1)⟩⟩⟩
  have z1 := Decidable.not_not.mp z1
  have z2 := Decidable.not_not.mp z2
  have z3 := Decidable.not_not.mp z3
  refine ⟨0, _, by omega, c_X3_add hN.1 hO.2.2.1.1, ?_⟩
  rintro v μ1 (⟨z4, rfl, rfl⟩ | ⟨z4, rfl, hF, s1, k1, ⟨c0, c1, c2, c3, c4⟩, ho⟩)
  · exact no (fun w => z4 w.2.2.2)
  · rw [noteV, if_pos ⟨z1, z2, z3, z4⟩, noteS, if_pos ⟨z1, z2, z3, z4⟩]
    refine ⟨rfl, cSt_no h hF.1 hF.2 ⟨s1, k1.trans hN.2.1, fun k hk => ?_⟩⟩
    have hk : k < σ.2.2.1.1 + 1 := hk
    show μ1.1 260 0 k = upN _ _ _ k ∧ (upN _ _ _ k = -1 → μ1.1 256 0 k = upN _ _ _ k ∧ μ1.1 257 0 k = upN _ _ _ k ∧ μ1.1 258 0 k = upN _ _ _ k ∧ μ1.1 259 0 k = upN _ _ _ k)
    by_cases e : k = σ.2.2.1.1
    · subst e
      rw [upN_s, upN_s, upN_s, upN_s, upN_s]
      exact ⟨c0, fun _ => ⟨c1, c2, c3, c4⟩⟩
    · rw [upN_o e, upN_o e, upN_o e, upN_o e, upN_o e, ho 260 (by omega) (by omega) k e, ho 256 (by omega) (by omega) k e, ho 257 (by omega) (by omega) k e, ho 258 (by omega) (by omega) k e, ho 259 (by omega) (by omega) k e]
      exact hN.2.2 k (by omega)
theorem c_X9_out (hd : 2 ≤ d) (h : cSt μ t σ) (hO : sOkS σ) : Ctr l D d yX9_out cX9_out 2 (some .int) [.ref (D.2.2 9 0), .int x1] μ (pI (fun v μ' => v = outV σ x1 ∧ cSt μ' t (outS σ x1) ∧ mKp μ μ')) := by
  have hN := h.2.2.2.2.2.1
  have h24 := hO.2.2.1.1
  refine en_X9_out (fun Γ => bl_X9_out_0 (by decide) ?_)
  have ei : iw x1 0 (μ.1 3 0 6 - 1) = 0 ↔ ¬ isM σ.2.2.1.1 x1 := by rw [hN.1]; exact iw_man (by omega)
  rw [ei]
  have no : ¬ outP σ x1 → (-1 : Int32) = outV σ x1 ∧ cSt μ t (outS σ x1) ∧ mKp μ μ := fun z => ⟨by rw [outV, if_neg z], by rw [outS, if_neg z]; exact h, mKp.rf⟩
  refine ⟨by omega, fun z => no (fun w => z w.1), fun z1 => ?_⟩
  have z1 := Decidable.not_not.mp z1
  obtain ⟨m1, m2⟩ := isM_ix z1
  refine ⟨1, fun v μ' => v = outV σ x1 ∧ cSt μ' t (outS σ x1) ∧ mKp μ μ', by omega, en_X3_addStrike (fun Γ => bl_X3_addStrike_0 (by decide) ⟨0, _, by omega, c_X3_add hN.1 h24, ?_⟩), fun v μ' hh => hh⟩
  rintro v μ1 (⟨z4, rfl, rfl⟩ | ⟨z4, rfl, hF, s1, k1, -, ho⟩) _ rfl
  · exact ⟨fun _ => no (fun w => z4 w.2), fun z => absurd rfl z⟩
  · refine ⟨fun z => absurd z (nI_nm1 (by omega)), fun _ => ⟨_, by omega, rfl, ?_⟩⟩
    rintro μ2 e2
    rw [outV, if_pos ⟨z1, z4⟩, outS, if_pos ⟨z1, z4⟩]
    have hF2 : ntF μ μ2 := by rw [e2]; exact hF.put (by omega)
    have g3 : μ2.1 3 0 = μ1.1 3 0 := by rw [e2, gsI_off (by omega)]
    refine ⟨rfl, cSt_no h hF2.1 hF2.2 ⟨by rw [g3]; exact s1, by rw [g3, k1]; exact hN.2.1, fun k hk => ?_⟩⟩
    have hk : k < σ.2.2.1.1 + 1 := hk
    show μ2.1 260 0 k = upN _ _ _ k ∧ (upN _ _ _ k = -1 → _)
    by_cases e : k = σ.2.2.1.1
    · subst e
      rw [upN_s]
      refine ⟨by rw [e2, gsI_s], fun w => ?_⟩
      rw [m1] at w
      exact absurd w (nI_nm1 (by omega))
    · rw [upN_o e]
      have g : ∀ a, 256 ≤ a → a ≤ 260 → μ2.1 a 0 k = μ.1 a 0 k := fun a h1 h2 => by rw [e2, gsI_at, if_neg (by omega)]; exact ho a h1 h2 k e
      rw [g 260 (by omega) (by omega), g 256 (by omega) (by omega), g 257 (by omega) (by omega), g 258 (by omega) (by omega), g 259 (by omega) (by omega)]
      exact hN.2.2 k (by omega)
theorem c_X9_known (hd : 1 ≤ d) (h : cSt μ t σ) (hO : sOkS σ) : Ctr l D d yX9_known cX9_known 2 (some .boolean) [.ref (D.2.2 9 0), .int x1] μ (pI (fun v μ' => v = bI (knowP σ x1) ∧ cSt μ' t (knowS σ x1) ∧ mKp μ μ')) := by
  have hN := h.2.2.2.2.2.1
  have h24 := hO.2.2.1.1
  refine en_X9_known (fun Γ => bl_X9_known_0 (by decide) ?_)
  have ei : iw x1 (-1) (μ.1 3 0 6) = 0 ↔ ¬ knowP σ x1 := by rw [hN.1]; exact iw_lit (by decide) (nI_toInt (by omega))
  rw [ei]
  refine ⟨by omega, fun z1 => ?_, fun z => ⟨by rw [bI, if_neg z], by rw [knowS, if_neg z]; exact h, mKp.rf⟩⟩
  have z1 := Decidable.not_not.mp z1
  rintro μ1 e1
  rw [knowS, if_pos z1]
  have hF : ntF μ μ1 := by rw [e1]; exact ntF.rf.put (by omega)
  refine ⟨by rw [bI, if_pos z1], cSt_no h hF.1 hF.2 ⟨by rw [e1, gsI_at, if_neg (by omega)]; exact hN.1, by rw [e1, gsI_s], fun k hk => ?_⟩⟩
  have g : ∀ a, ¬ a = 3 → μ1.1 a 0 = μ.1 a 0 := fun a ha => by rw [e1, gsI_off (by omega)]
  rw [g 260 (by omega), g 256 (by omega), g 257 (by omega), g 258 (by omega), g 259 (by omega)]
  exact hN.2.2 k hk
end M5
section M6
variable {l : Launch} {D : gD} {d : Nat} {μ : gMem} {σ : sV} {x1 x2 x3 x4 : Int32}
/-- what the reference's notes alone change -/
def nmF (μ μ' : gMem) : Prop := (∀ k j, ¬ (k = 10 ∧ j = 0) → ¬ (761 ≤ k ∧ k ≤ 765 ∧ j = 0) → μ'.1 k j = μ.1 k j) ∧ (∀ j, ¬ j = 55 → ¬ j = 56 → μ'.1 10 0 j = μ.1 10 0 j) ∧ μ'.2 = μ.2
theorem nmF.rf : nmF μ μ := ⟨fun _ _ _ _ => rfl, fun _ _ _ => rfl, rfl⟩
theorem nmF.put {μ1 : gMem} {k j : Nat} {v : Int32} (h : nmF μ μ1) (hk : k = 10 ∧ (j = 55 ∨ j = 56) ∨ 761 ≤ k ∧ k ≤ 765) : nmF μ (gsI μ1 k 0 j v) := ⟨fun a b c e => by rw [gsI_off (by omega)]; exact h.1 a b c e, fun a c e => by rw [gsI_at, if_neg (by omega)]; exact h.2.1 a c e, h.2.2⟩
theorem c_X10_note (hd : 1 ≤ d) (h : mSt μ σ) (hO : sOkS σ) : Ctr l D d yX10_note cX10_note 5 (some .int) [.ref (D.2.2 10 0), .int x1, .int x2, .int x3, .int x4] μ (pI (fun v μ' => v = noteV σ x1 x2 x3 ∧ mSt μ' (noteS σ x1 x2 x3 x4) ∧ cKp μ μ')) := by
  have em : eMen (eA σ) = eMen σ.1.1 := rfl
  have h24 := hO.2.2.1.1
  refine en_X10_note (fun Γ => bl_X10_note_0 (by decide) ?_)
  rintro μ0 e0
  obtain ⟨h1, hK⟩ : mSt μ0 σ ∧ cKp μ μ0 := by rw [e0]; exact h.th hO
  clear e0
  have hn := h1.nM hO
  have hN := h1.2.2.2.1
  have e24 : μ0.1 10 0 55 = (24 : Int32) ↔ σ.2.2.1.1 = 24 := by rw [hN.1]; exact nI_eq (b := 24) (by omega) (by omega)
  rw [hn.isn, em, ltL (z := 1) (by decide), gtL (z := 40) (by decide), lt0, gtL (z := 99999) (by decide), e24]
  have no : ¬ noteP σ x1 x2 x3 → (-1 : Int32) = noteV σ x1 x2 x3 ∧ mSt μ0 (noteS σ x1 x2 x3 x4) ∧ cKp μ μ0 := fun z => ⟨by rw [noteV, if_neg z], by rw [noteS, if_neg z]; exact h1, hK⟩
  refine ⟨fun z => no (fun w => by have := w.1; omega), fun z1 => ⟨fun z => no (fun w => by have := w.1; omega), fun z2 => ⟨by omega, fun z => no (fun w => z w.2.1), fun z3 => ⟨fun z => no (fun w => by have := w.2.2.1; omega), fun z4 => ⟨fun z => no (fun w => by have := w.2.2.1; omega), fun z5 => ⟨fun z6 => ?_, fun z => no (fun w => by have := w.2.2.2; omega)⟩⟩⟩⟩⟩⟩
  have z3 := Decidable.not_not.mp z3
  have hP : noteP σ x1 x2 x3 := ⟨by omega, z3, by omega, by omega⟩
  have hs := hN.1
  refine ⟨σ.2.2.1.1, by omega, hs, ?_⟩
  rintro μ1 e1
  refine ⟨σ.2.2.1.1, by omega, by rw [e1, gsI_off (by omega)]; exact hs, ?_⟩
  rintro μ2 e2
  refine ⟨σ.2.2.1.1, by omega, by rw [e2, gsI_off (by omega), e1, gsI_off (by omega)]; exact hs, ?_⟩
  rintro μ3 e3
  refine ⟨σ.2.2.1.1, by omega, by rw [e3, gsI_off (by omega), e2, gsI_off (by omega), e1, gsI_off (by omega)]; exact hs, ?_⟩
  rintro μ4 e4
  refine ⟨σ.2.2.1.1, by omega, by rw [e4, gsI_off (by omega), e3, gsI_off (by omega), e2, gsI_off (by omega), e1, gsI_off (by omega)]; exact hs, ?_⟩
  rintro μ5 e5
  have g3 : μ5.1 10 0 = μ0.1 10 0 := by rw [e5, gsI_off (by omega), e4, gsI_off (by omega), e3, gsI_off (by omega), e2, gsI_off (by omega), e1, gsI_off (by omega)]
  rw [g3, hs, nI_1]
  rintro μ6 e6
  have o : ∀ k, 761 ≤ k → k ≤ 765 → μ6.1 k 0 = μ5.1 k 0 := fun k a b => by rw [e6, gsI_off (by omega)]
  have hF : nmF μ0 μ6 := by
    rw [e6, e5, e4, e3, e2, e1]
    exact (((((nmF.rf.put (by omega)).put (by omega)).put (by omega)).put (by omega)).put (by omega)).put (by omega)
  have c0 : μ6.1 765 0 σ.2.2.1.1 = -1 := by rw [o 765 (by omega) (by omega), e5, gsI_s]
  have c1 : μ6.1 761 0 σ.2.2.1.1 = x1 := by rw [o 761 (by omega) (by omega), e5, gsI_off (by omega), e4, gsI_off (by omega), e3, gsI_off (by omega), e2, gsI_off (by omega), e1, gsI_s]
  have c2 : μ6.1 762 0 σ.2.2.1.1 = x2 := by rw [o 762 (by omega) (by omega), e5, gsI_off (by omega), e4, gsI_off (by omega), e3, gsI_off (by omega), e2, gsI_s]
  have c3 : μ6.1 763 0 σ.2.2.1.1 = x3 := by rw [o 763 (by omega) (by omega), e5, gsI_off (by omega), e4, gsI_off (by omega), e3, gsI_s]
  have c4 : μ6.1 764 0 σ.2.2.1.1 = vp_nar .boolean x4 := by rw [o 764 (by omega) (by omega), e5, gsI_off (by omega), e4, gsI_s]
  have ho : ∀ k, 761 ≤ k → k ≤ 765 → ∀ z, ¬ z = σ.2.2.1.1 → μ6.1 k 0 z = μ0.1 k 0 z := fun k a b w hw => by rw [o k a b, e5, gsI_at, if_neg (by omega), e4, gsI_at, if_neg (by omega), e3, gsI_at, if_neg (by omega), e2, gsI_at, if_neg (by omega), e1, gsI_at, if_neg (by omega)]
  have fin := mSt_no (σ := σ) (ν := (σ.2.2.1.1 + 1, σ.2.2.1.2.1, upN σ.2.2.1.2.2.1 σ.2.2.1.1 (-1), upN σ.2.2.1.2.2.2.1 σ.2.2.1.1 x1, upN σ.2.2.1.2.2.2.2.1 σ.2.2.1.1 x2, upN σ.2.2.1.2.2.2.2.2.1 σ.2.2.1.1 x3, upN σ.2.2.1.2.2.2.2.2.2 σ.2.2.1.1 (vp_nar .boolean x4))) h1 hF.1 hF.2.1 hF.2.2 ⟨by rw [e6, gsI_s], by rw [e6, gsI_at, if_neg (by omega), g3]; exact hN.2.1, fun k hk => by
    have hk : k < σ.2.2.1.1 + 1 := hk
    show μ6.1 765 0 k = upN _ _ _ k ∧ (upN _ _ _ k = -1 → μ6.1 761 0 k = upN _ _ _ k ∧ μ6.1 762 0 k = upN _ _ _ k ∧ μ6.1 763 0 k = upN _ _ _ k ∧ μ6.1 764 0 k = upN _ _ _ k)
    by_cases e : k = σ.2.2.1.1
    · subst e
      rw [upN_s, upN_s, upN_s, upN_s, upN_s]
      exact ⟨c0, fun _ => ⟨c1, c2, c3, c4⟩⟩
    · rw [upN_o e, upN_o e, upN_o e, upN_o e, upN_o e, ho 765 (by omega) (by omega) k e, ho 761 (by omega) (by omega) k e, ho 762 (by omega) (by omega) k e, ho 763 (by omega) (by omega) k e, ho 764 (by omega) (by omega) k e]
      exact hN.2.2 k (by omega)⟩
  refine ⟨by rw [e6, gsI_s, nI_pred, noteV, if_pos hP], ?_, hK.tr fin.2⟩
  rw [noteS, if_pos hP]
  exact fin.1
theorem c_X10_out (h : mSt μ σ) (hO : sOkS σ) : Ctr l D d yX10_out cX10_out 2 (some .int) [.ref (D.2.2 10 0), .int x1] μ (pI (fun v μ' => v = outV σ x1 ∧ mSt μ' (outS σ x1) ∧ cKp μ μ')) := by
  have h24 := hO.2.2.1.1
  refine en_X10_out (fun Γ => bl_X10_out_0 (by decide) ?_)
  rintro μ0 e0
  obtain ⟨h1, hK⟩ : mSt μ0 σ ∧ cKp μ μ0 := by rw [e0]; exact h.th hO
  clear e0
  have hN := h1.2.2.2.1
  have e24 : μ0.1 10 0 55 = (24 : Int32) ↔ σ.2.2.1.1 = 24 := by rw [hN.1]; exact nI_eq (b := 24) (by omega) (by omega)
  have le : μ0.1 10 0 55 ≤ x1 ↔ (σ.2.2.1.1 : Int) ≤ x1.toInt := by rw [hN.1, i32_le, nI_toInt (by omega)]
  rw [lt0, le, e24]
  have no : ¬ outP σ x1 → (-1 : Int32) = outV σ x1 ∧ mSt μ0 (outS σ x1) ∧ cKp μ μ0 := fun z => ⟨by rw [outV, if_neg z], by rw [outS, if_neg z]; exact h1, hK⟩
  refine ⟨fun z => no (fun w => by have := w.1; omega), fun z1 => ⟨fun z => no (fun w => by have := w.1; omega), fun z2 => ⟨fun z3 => ?_, fun z => no (fun w => by have := w.2; omega)⟩⟩⟩
  have hM' : isM σ.2.2.1.1 x1 := ⟨by omega, by omega⟩
  have hP : outP σ x1 := ⟨hM', by omega⟩
  obtain ⟨m1, m2⟩ := isM_ix hM'
  have hs := hN.1
  refine ⟨σ.2.2.1.1, by omega, hs, ?_⟩
  rintro μ1 e1
  have g3 : μ1.1 10 0 = μ0.1 10 0 := by rw [e1, gsI_off (by omega)]
  rw [g3, hs, nI_1]
  rintro μ6 e6
  have hF : nmF μ0 μ6 := by
    rw [e6, e1]
    exact (nmF.rf.put (by omega)).put (by omega)
  have fin := mSt_no (σ := σ) (ν := (σ.2.2.1.1 + 1, σ.2.2.1.2.1, upN σ.2.2.1.2.2.1 σ.2.2.1.1 x1, σ.2.2.1.2.2.2)) h1 hF.1 hF.2.1 hF.2.2 ⟨by rw [e6, gsI_s], by rw [e6, gsI_at, if_neg (by omega), g3]; exact hN.2.1, fun k hk => by
    have hk : k < σ.2.2.1.1 + 1 := hk
    show μ6.1 765 0 k = upN _ _ _ k ∧ (upN _ _ _ k = -1 → _)
    by_cases e : k = σ.2.2.1.1
    · subst e
      rw [upN_s]
      refine ⟨by rw [e6, gsI_off (by omega), e1, gsI_s], fun w => ?_⟩
      rw [m1] at w
      exact absurd w (nI_nm1 (by omega))
    · rw [upN_o e]
      have g : ∀ a, 761 ≤ a → a ≤ 765 → μ6.1 a 0 k = μ0.1 a 0 k := fun a h1 h2 => by rw [e6, gsI_off (by omega), e1, gsI_at, if_neg (by omega)]
      rw [g 765 (by omega) (by omega), g 761 (by omega) (by omega), g 762 (by omega) (by omega), g 763 (by omega) (by omega), g 764 (by omega) (by omega)]
      exact hN.2.2 k (by omega)⟩
  refine ⟨by rw [e6, gsI_s, nI_pred, outV, if_pos hP], ?_, hK.tr fin.2⟩
  rw [outS, if_pos hP]
  exact fin.1
theorem c_X10_known (h : mSt μ σ) (hO : sOkS σ) : Ctr l D d yX10_known cX10_known 2 (some .boolean) [.ref (D.2.2 10 0), .int x1] μ (pI (fun v μ' => v = bI (knowP σ x1) ∧ mSt μ' (knowS σ x1) ∧ cKp μ μ')) := by
  have h24 := hO.2.2.1.1
  refine en_X10_known (fun Γ => bl_X10_known_0 (by decide) ?_)
  rintro μ0 e0
  obtain ⟨h1, hK⟩ : mSt μ0 σ ∧ cKp μ μ0 := by rw [e0]; exact h.th hO
  clear e0
  have hN := h1.2.2.2.1
  have le : x1 ≤ μ0.1 10 0 55 ↔ x1.toInt ≤ σ.2.2.1.1 := by rw [hN.1, i32_le, nI_toInt (by omega)]
  rw [ltL (z := -1) (by decide), le]
  have no : ¬ knowP σ x1 → (0 : Int32) = bI (knowP σ x1) ∧ mSt μ0 (knowS σ x1) ∧ cKp μ μ0 := fun z => ⟨by rw [bI, if_neg z], by rw [knowS, if_neg z]; exact h1, hK⟩
  refine ⟨fun z => no (fun w => by have : inR x1 (-1) σ.2.2.1.1 := w; omega), fun z1 => ⟨fun z2 => ?_, fun z => no (fun w => by have : inR x1 (-1) σ.2.2.1.1 := w; omega)⟩⟩
  have hP : knowP σ x1 := ⟨by omega, by omega⟩
  rintro μ1 e1
  have hF : nmF μ0 μ1 := by rw [e1]; exact nmF.rf.put (by omega)
  have fin := mSt_no (σ := σ) (ν := (σ.2.2.1.1, x1, σ.2.2.1.2.2)) h1 hF.1 hF.2.1 hF.2.2 ⟨by rw [e1, gsI_at, if_neg (by omega)]; exact hN.1, by rw [e1, gsI_s], fun k hk => by
    have g : ∀ a, ¬ a = 10 → μ1.1 a 0 = μ0.1 a 0 := fun a ha => by rw [e1, gsI_off (by omega)]
    rw [g 765 (by omega), g 761 (by omega), g 762 (by omega), g 763 (by omega), g 764 (by omega)]
    exact hN.2.2 k hk⟩
  refine ⟨by rw [bI, if_pos hP], ?_, hK.tr fin.2⟩
  rw [knowS, if_pos hP]
  exact fin.1
end M6
