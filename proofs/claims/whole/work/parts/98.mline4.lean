/-! the reference's line, whole -/
section ML4
variable {l : Launch} {D : gD} {d : Nat} {μ μ0 μ1 : gMem} {lg : Nat → Int32} {tb : Nat → Nat} {L p n w : Nat} {δ : dfT} {Γ : gC}
theorem lnR_none (h : ∀ j, j < 8 → ¬ tkK lg tb L p = nI j) : lnR lg tb L δ p = .inl (1, p) := by
  unfold lnR
  rw [if_neg (show ¬ tkK lg tb L p = 0 from h 0 (by omega)), if_neg (show ¬ tkK lg tb L p = 1 from h 1 (by omega)), if_neg (show ¬ tkK lg tb L p = 2 from h 2 (by omega)), if_neg (show ¬ tkK lg tb L p = 3 from h 3 (by omega)), if_neg (show ¬ tkK lg tb L p = 4 from h 4 (by omega)), if_neg (show ¬ tkK lg tb L p = 5 from h 5 (by omega)), if_neg (show ¬ tkK lg tb L p = 6 from h 6 (by omega)), if_neg (show ¬ tkK lg tb L p = 7 from h 7 (by omega))]
theorem lnR_full (hk : tkK lg tb L p = nI w) (h : fulP w δ) : lnR lg tb L δ p = .inl (2, p) := by
  rcases h with ⟨rfl, e⟩ | ⟨rfl, e⟩ | ⟨rfl, e⟩
  · have k0 : tkK lg tb L p = 0 := hk
    unfold lnR
    rw [if_pos k0]
    unfold lnM
    rw [if_pos (by omega)]
  · have k0 : tkK lg tb L p = 1 := hk
    unfold lnR
    rw [if_neg (by rw [k0]; decide), if_pos k0]
    unfold lnD
    rw [if_pos (by omega)]
  · have k0 : tkK lg tb L p = 2 := hk
    unfold lnR
    rw [if_neg (by rw [k0]; decide), if_neg (by rw [k0]; decide), if_pos k0]
    unfold lnP
    rw [if_pos (by omega)]
theorem lnR_said (hk : tkK lg tb L p = nI w) (h3 : 3 ≤ w) (h6 : w ≤ 6) (h : δ.2.2.2.2.2 w = true) : lnR lg tb L δ p = .inl (3, p) := by
  obtain rfl | rfl | rfl | rfl : w = 3 ∨ w = 4 ∨ w = 5 ∨ w = 6 := by omega
  · have k0 : tkK lg tb L p = 3 := hk
    unfold lnR
    rw [if_neg (by rw [k0]; decide), if_neg (by rw [k0]; decide), if_neg (by rw [k0]; decide), if_pos k0]
    unfold ln2
    rw [if_pos h]
  · have k0 : tkK lg tb L p = 4 := hk
    unfold lnR
    rw [if_neg (by rw [k0]; decide), if_neg (by rw [k0]; decide), if_neg (by rw [k0]; decide), if_neg (by rw [k0]; decide), if_pos k0]
    unfold ln2
    rw [if_pos h]
  · have k0 : tkK lg tb L p = 5 := hk
    unfold lnR
    rw [if_neg (by rw [k0]; decide), if_neg (by rw [k0]; decide), if_neg (by rw [k0]; decide), if_neg (by rw [k0]; decide), if_neg (by rw [k0]; decide), if_pos k0]
    unfold ln1
    rw [if_pos h]
  · have k0 : tkK lg tb L p = 6 := hk
    unfold lnR
    rw [if_neg (by rw [k0]; decide), if_neg (by rw [k0]; decide), if_neg (by rw [k0]; decide), if_neg (by rw [k0]; decide), if_neg (by rw [k0]; decide), if_neg (by rw [k0]; decide), if_pos k0]
    unfold ln1
    rw [if_pos h]
theorem c_X10_line (hd : 653 ≤ d) (hWd : WordC l D lg) (hO : okD δ) (h : rlM lg tb L μ p) (hM : dfM μ δ) (h18 : μ.1 10 0 18 = nI n) : Ctr l D d yX10_line cX10_line 4 none [.ref (D.2.2 10 0)] μ (pV (fun μ' => lmF μ μ' ∧ lmR lg tb L p n (lneR lg tb L δ p) μ')) := by
  refine en_X10_line (fun Γ => bl_X10_line_0 (by decide) ?_)
  have bad : lnR lg tb L δ p = .inl (1, p) → pt_X10_line_1 l D d (fun μ' => lmF μ μ' ∧ lmR lg tb L p n (lneR lg tb L δ p) μ') Γ 0 μ := by
    intro e
    refine bl_X10_line_1 (by decide) ⟨0, _, by omega, w_wrong (x := 1) (by decide) h, ?_⟩
    rintro μ5 ⟨F, f⟩
    refine ⟨F.m, ?_⟩
    unfold lneR
    rw [bnd_l e]
    exact f
  have flt : ∀ (x : Int32) (k : Int32) (ν : gMem), lnR lg tb L δ p = .inl (k, p) → rwF μ ν → flM ν k p → pt_X10_line_2 l D d (fun μ' => lmF μ μ' ∧ lmR lg tb L p n (lneR lg tb L δ p) μ') Γ 0 x ν := by
    intro x k ν e F f
    refine bl_X10_line_2 (by decide) ⟨fun z => absurd z f.nz, fun _ => ⟨F.m, ?_⟩⟩
    unfold lneR
    rw [bnd_l e]
    exact f
  rcases wcase h.2.2.2 with ⟨j, hj, ek, e22, e23⟩ | ⟨n22, nk⟩
  · rw [e23, show (7 : Int32) = nI 7 from rfl, nI_leI (by omega) (by omega)]
    refine ⟨fun z => absurd e22 z, fun _ => ⟨fun z => ?_, fun z => bad (lnR_none (fun i hi w => ?_))⟩⟩
    · rintro _ rfl
      refine ⟨1, _, by omega, c_X10_isFull (by omega) hj hM hO.1, ?_⟩
      rintro v9 μ8 ⟨ev, em⟩
      rw [em, ev]
      by_cases hf : fulP j δ
      · rw [bI, if_pos hf]
        refine ⟨fun w => absurd w (by decide), fun _ => ⟨0, _, by omega, w_wrong (x := 2) (by decide) h, ?_⟩⟩
        rintro μ26 ⟨F, f⟩
        exact flt _ 2 μ26 (lnR_full ek hf) F f
      · rw [bI, if_neg hf, show (3 : Int32) = nI 3 from rfl, show (6 : Int32) = nI 6 from rfl, nI_ltI (by omega) (by omega), nI_ltI (by omega) (by omega)]
        obtain ⟨B, hB, eB, b1, -⟩ := hM.2.2.2.2.2
        refine ⟨fun _ => ⟨fun w => line_2 (by omega) hWd z ek hO h hM h18 hf (fun a => by omega), fun w => ⟨fun w2 => line_2 (by omega) hWd z ek hO h hM h18 hf (fun a b => by omega), fun w2 => ?_⟩⟩, fun w => absurd rfl w⟩
        rw [eB, bt_is hB (by omega), b1 j (by omega) (by omega)]
        refine ⟨fun w3 => line_2 (by omega) hWd z ek hO h hM h18 hf (fun _ _ => w3), fun w3 => ⟨0, _, by omega, w_wrong (x := 3) (by decide) h, ?_⟩⟩
        rintro μ19 ⟨F, f⟩
        exact flt _ 3 μ19 (lnR_said ek (by omega) (by omega) w3) F f
    · have := (nI_eq (by omega) (by omega)).mp (ek.symm.trans w)
      omega
  · exact ⟨fun _ => bad (lnR_none (fun i hi => nk i (by omega))), fun z => absurd z n22⟩
end ML4
