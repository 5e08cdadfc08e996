/-! the reference's line -/
abbrev fulP (w : Nat) (δ : dfT) : Prop := (w = 0 ∧ δ.1.1 = 5) ∨ (w = 1 ∧ δ.2.1.1 = 6) ∨ (w = 2 ∧ δ.2.2.1.1 = 12)
section ML3
variable {l : Launch} {D : gD} {d : Nat} {μ μ0 μ1 : gMem} {lg : Nat → Int32} {tb : Nat → Nat} {L p n w : Nat} {δ : dfT} {Γ : gC}
theorem c_X10_isFull (hd : 1 ≤ d) (hw : w < 21) (hM : dfM μ δ) (hB : dfB δ) : Ctr l D d yX10_isFull cX10_isFull 2 (some .boolean) [.ref (D.2.2 10 0), .int (nI w)] μ (pI (fun v μ' => v = bI (fulP w δ) ∧ μ' = μ)) := by
  obtain ⟨hB1, hB2, hB3, -⟩ := hB
  refine en_X10_isFull (fun Γ => ?_)
  have p3 : fulP w δ → pt_X10_isFull_3 l D d (fun v μ' => v = bI (fulP w δ) ∧ μ' = μ) Γ μ := fun z => bl_X10_isFull_3 ⟨by rw [bI, if_pos z], rfl⟩
  have no : ¬ fulP w δ → (0 : Int32) = bI (fulP w δ) ∧ μ = μ := fun z => ⟨by rw [bI, if_neg z], rfl⟩
  have p2 : ¬ (w = 0 ∧ δ.1.1 = 5) → ¬ (w = 1 ∧ δ.2.1.1 = 6) → pt_X10_isFull_2 l D d (fun v μ' => v = bI (fulP w δ) ∧ μ' = μ) Γ 0 (nI w) μ := by
    intro a b
    refine bl_X10_isFull_2 (by decide) ?_
    rw [hM.2.2.1.1, show (2 : Int32) = nI 2 from rfl, show (12 : Int32) = nI 12 from rfl, nI_eq (by omega) (by omega), nI_eq (by omega) (by omega)]
    exact ⟨fun z => no (by omega), fun z => ⟨by omega, fun z2 => no (by omega), fun z2 => p3 (by omega)⟩⟩
  have p1 : ¬ (w = 0 ∧ δ.1.1 = 5) → pt_X10_isFull_1 l D d (fun v μ' => v = bI (fulP w δ) ∧ μ' = μ) Γ 0 (nI w) μ := by
    intro a
    refine bl_X10_isFull_1 (by decide) ?_
    rw [hM.2.1.1, show (1 : Int32) = nI 1 from rfl, show (6 : Int32) = nI 6 from rfl, nI_eq (by omega) (by omega), nI_eq (by omega) (by omega)]
    exact ⟨fun z => p2 a (by omega), fun z => ⟨by omega, fun z2 => p3 (by omega), fun z2 => p2 a (by omega)⟩⟩
  refine bl_X10_isFull_0 (by decide) ?_
  rw [hM.1.1, show (5 : Int32) = nI 5 from rfl, show (0 : Int32) = nI 0 from rfl, nI_eq (by omega) (by omega), nI_eq (by omega) (by omega)]
  exact ⟨fun z => p1 (by omega), fun z => ⟨by omega, fun z2 => p3 (by omega), fun z2 => p1 (by omega)⟩⟩
theorem lnH.wk {p' : Nat} {R : rsL dfT} (h : lnH lg tb L p' R μ) (hp : p ≤ p') : lnH lg tb L p R μ := by
  rcases R with ⟨k, q⟩ | ⟨δ', q⟩
  · exact h
  · exact ⟨h.1, h.2.1, Nat.lt_of_le_of_lt hp h.2.2.1, h.2.2.2⟩
theorem line_2 (hd : 653 ≤ d) (hWd : WordC l D lg) (hw : w ≤ 7) (hk : tkK lg tb L p = nI w) (hO : okD δ) (h : rlM lg tb L μ p) (hM : dfM μ δ) (h18 : μ.1 10 0 18 = nI n) (hful : ¬ fulP w δ) (hs : 3 ≤ w → w ≤ 6 → ¬ δ.2.2.2.2.2 w = true) : pt_X10_line_2 l D d (fun μ' => lmF μ μ' ∧ lmR lg tb L p n (lneR lg tb L δ p) μ') Γ 0 (nI w) μ := by
  refine bl_X10_line_2 (by decide) ⟨fun _ => ?_, fun z => absurd h.2.1 z⟩
  rintro μ2 e2
  have M2 := hM.said (w := w) hw
  rw [← e2] at M2
  have o2 : ∀ j, ¬ j = 17 → μ2.1 10 0 j = μ.1 10 0 j := fun j hj => by rw [e2, gsI_at, if_neg (by omega)]
  have r2 : rlM lg tb L μ2 p := h.of (fun j hj => o2 j (by omega)) (by rw [e2, gsI_off (by omega)])
  have G2 : lmF μ μ2 := by rw [e2]; exact lmF.rf.p10 (by omega)
  have g2 : μ2.1 10 0 18 = nI n := by rw [o2 18 (by omega)]; exact h18
  clear e2
  refine ⟨2, _, by omega, c_token (by omega) hWd r2.1 r2.2.2.1 r2.2.2.2, ?_⟩
  rintro μ7 ⟨N7, a7⟩
  have r7 : rlM lg tb L μ7 (nxP lg tb L p) := r2.tk N7 a7
  have M7 := M2.w N7.w
  have G7 : lmF μ μ7 := G2.tr N7.w.m
  have g7 : μ7.1 10 0 18 = nI n := by rw [N7.2.1 18 (by omega)]; exact g2
  have ne : ∀ k, k < 8 → nI w = nI k → w = k := fun k hk e => (nI_eq (by omega) (by omega)).mp e
  have hp : p < L := tk_in hk (fun e => by have := (nI_eq (a := w) (b := 36) (by omega) (by omega)).mp e; omega)
  have M7' : ¬ (3 ≤ w ∧ w ≤ 6) → dfM μ7 δ := fun z => by
    have := M7.sc (said' := δ.2.2.2.2.2) (fun k a b => if_neg (by omega))
    exact this
  refine ⟨fun z => ?_, fun z => ?_, fun z => ?_, fun z => ?_, fun z => ?_, fun z => ?_, fun z => ?_, fun z => ?_⟩
  · have e := ne 0 (by omega) z
    exact line_man (by omega) hWd G7 g7 (hk.trans z) hp (Nat.lt_of_le_of_ne hO.1.1 (fun q => hful (by omega))) hO r7 (M7' (by omega))
  · have e := ne 1 (by omega) z
    exact line_deed (by omega) hWd G7 g7 (hk.trans z) hp (Nat.lt_of_le_of_ne hO.1.2.1 (fun q => hful (by omega))) hO r7 (M7' (by omega))
  · have e := ne 2 (by omega) z
    have hf : ¬ 12 ≤ δ.2.2.1.1 := fun q => hful (by have := hO.1.2.2.1; omega)
    have k2 : tkK lg tb L p = 2 := hk.trans z
    refine ⟨4, _, by omega, c_X10_planLine (by omega) hWd hO.1 hO.2.1 r7 (M7' (by omega)), ?_⟩
    rintro μ121 ⟨F, g, H⟩
    have eP : lnP lg tb L δ p = lnP1 lg tb L δ (nxP lg tb L p) := by unfold lnP; exact if_neg hf
    have eR : lnR lg tb L δ p = lnP lg tb L δ p := by unfold lnR; rw [if_neg (by rw [k2]; decide), if_neg (by rw [k2]; decide), if_pos k2]
    obtain ⟨X, hX⟩ : ∃ X, lnP1 lg tb L δ (nxP lg tb L p) = X := ⟨_, rfl⟩
    rw [hX] at H
    refine line_3 (by omega) hWd (G7.tr F) (g.trans g7) (R := X) (eR.trans (eP.trans hX)) ?_
    rcases X with ⟨k, q⟩ | ⟨δ', q⟩
    · exact H
    · have ok := lnP_ok (eP.trans hX) hp hO.2.1 hO.1
      exact ⟨H.1, H.2, ok.2.2.1, ok.2.1, ok.1, hO.2.2.of (by rw [ok.2.2.2])⟩
  · have e := ne 3 (by omega) z
    subst e
    exact line_bet (by omega) hWd G7 g7 hk hp (hs (by omega) (by omega)) hO r7 M7
  · have e := ne 4 (by omega) z
    subst e
    exact line_pay (by omega) hWd G7 g7 hk hp (hs (by omega) (by omega)) hO r7 M7
  · have e := ne 5 (by omega) z
    subst e
    exact line_rain (by omega) hWd G7 g7 hk hp (hs (by omega) (by omega)) hO r7 M7
  · have e := ne 6 (by omega) z
    subst e
    exact line_seed (by omega) hWd G7 g7 hk hp (hs (by omega) (by omega)) hO r7 M7
  · have e : w = 7 := by
      obtain ⟨z0, z1, z2, z3, z4, z5, z6⟩ := z
      have n0 : ¬ w = 0 := fun e => z0 (by rw [e]; rfl)
      have n1 : ¬ w = 1 := fun e => z1 (by rw [e]; rfl)
      have n2 : ¬ w = 2 := fun e => z2 (by rw [e]; rfl)
      have n3 : ¬ w = 3 := fun e => z3 (by rw [e]; rfl)
      have n4 : ¬ w = 4 := fun e => z4 (by rw [e]; rfl)
      have n5 : ¬ w = 5 := fun e => z5 (by rw [e]; rfl)
      have n6 : ¬ w = 6 := fun e => z6 (by rw [e]; rfl)
      omega
    subst e
    have k7 : tkK lg tb L p = 7 := hk
    refine ⟨652, _, by omega, c_X10_lawLine (by omega) hWd hO r7 (M7' (by omega)), ?_⟩
    rintro μ194 ⟨F, g, H⟩
    have eR : lnR lg tb L δ p = lnL1 lg tb L δ (nxP lg tb L p) := by
      unfold lnR
      rw [if_neg (by rw [k7]; decide), if_neg (by rw [k7]; decide), if_neg (by rw [k7]; decide), if_neg (by rw [k7]; decide), if_neg (by rw [k7]; decide), if_neg (by rw [k7]; decide), if_neg (by rw [k7]; decide), if_pos k7]
      rfl
    exact line_3 (by omega) hWd (G7.tr F) (g.trans g7) eR (H.wk (nxP_ge p))
end ML3
