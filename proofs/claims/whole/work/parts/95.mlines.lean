/-! LINES of the reference: man, deed, bet, pay, rain, seed -/
section MM
variable {l : Launch} {D : gD} {d : Nat} {μ μ0 μ1 : gMem} {lg : Nat → Int32} {tb : Nat → Nat} {L p n : Nat} {δ : dfT} {Γ : gC}
theorem dfL.of {δ' : dfT} (h : dfL δ) (e : δ'.2.2.2.2.1 = δ.2.2.2.2.1) : dfL δ' := by
  unfold dfL
  rw [e]
  exact h
theorem line_man (hd : 4 ≤ d) (hWd : WordC l D lg) (hF : lmF μ0 μ) (h18 : μ.1 10 0 18 = nI n) (hk : tkK lg tb L p = 0) (hp : p < L) (hfl : δ.1.1 < 5) (hO : okD δ) (h : rlM lg tb L μ (nxP lg tb L p)) (hM : dfM μ δ) : (0 < d) ∧ (∀ x2_15 : Int32, x2_15 = (5 : Int32) + (μ.1 707 0 10) → (0 < d) ∧ (∃ (d_20 : Nat) (q_21 : Int32 → gMem → Prop), d_20 < d ∧ Ctr l D d_20 yX10_fresh cX10_fresh 5 (some .int) [.ref (D.2.2 10 0), .ref (D.2.2 708 0), .int (5 : Int32), .int (μ.1 707 0 10)] μ (pI q_21) ∧ ∀ (v_25 : Int32) (μ_24 : gMem), q_21 v_25 μ_24 → ∃ j_27 : Nat, j_27 < 10 ∧ x2_15 = nI j_27 ∧ (∀ μ_28 : gMem, μ_28 = gsI μ_24 708 0 j_27 v_25 → ∃ (d_29 : Nat) (q_30 : Int32 → gMem → Prop), d_29 < d ∧ Ctr l D d_29 yX10_numeral cX10_numeral 4 (some .int) [.ref (D.2.2 10 0), .int (0 : Int32), .int (99 : Int32)] μ_28 (pI q_30) ∧ ∀ (v_34 : Int32) (μ_33 : gMem), q_30 v_34 μ_33 → ∃ j_36 : Nat, j_36 < 10 ∧ x2_15 = nI j_36 ∧ (∀ μ_37 : gMem, μ_37 = gsI μ_33 709 0 j_36 v_34 → ∃ (d_38 : Nat) (q_39 : Int32 → gMem → Prop), d_38 < d ∧ Ctr l D d_38 yX10_numeral cX10_numeral 4 (some .int) [.ref (D.2.2 10 0), .int (0 : Int32), .int (99 : Int32)] μ_37 (pI q_39) ∧ ∀ (v_43 : Int32) (μ_42 : gMem), q_39 v_43 μ_42 → ∃ j_45 : Nat, j_45 < 10 ∧ x2_15 = nI j_45 ∧ (∀ μ_46 : gMem, μ_46 = gsI μ_42 710 0 j_45 v_43 → ∃ (d_47 : Nat) (q_48 : Int32 → gMem → Prop), d_47 < d ∧ Ctr l D d_47 yX10_numeral cX10_numeral 4 (some .int) [.ref (D.2.2 10 0), .int (0 : Int32), .int (99 : Int32)] μ_46 (pI q_48) ∧ ∀ (v_52 : Int32) (μ_51 : gMem), q_48 v_52 μ_51 → ∃ j_54 : Nat, j_54 < 10 ∧ x2_15 = nI j_54 ∧ (∀ μ_55 : gMem, μ_55 = gsI μ_51 711 0 j_54 v_52 → (0 < d) ∧ ((0 < d) ∧ (∀ μ_62 : gMem, μ_62 = gsI μ_55 707 0 10 ((μ_55.1 707 0 10) + (1 : Int32)) → pt_X10_line_3 l D d (fun μ' => lmF μ0 μ' ∧ lmR lg tb L p n (lneR lg tb L δ p) μ') Γ 0 μ_62)))))))) := by
  have hx : (5 : Int32) + μ.1 707 0 10 = nI (5 + δ.1.1) := by rw [hM.1.1]; exact nI_add 5 _
  refine ⟨by omega, ?_⟩
  rintro _ rfl
  rw [hx]
  refine ⟨by omega, 3, _, by omega, c_X10_fresh (a := 5) (m := δ.1.1) (Ln := 10) (by omega) hWd rfl (hM.1.1) (by decide) (by decide) (by decide) (by decide) (by omega) h, ?_⟩
  rintro v25 μ24 ⟨F24, q24⟩
  rw [nwR_cong (g := δ.1.2.1) (fun k hk => (hM.1.2 k hk).1)] at q24
  refine ⟨5 + δ.1.1, by omega, rfl, ?_⟩
  rintro μ28 e28
  have S28 : stM lg tb L μ28 (nwR lg tb L δ.1.2.1 δ.1.1 (nxP lg tb L p)) := by rw [e28]; exact q24.st.put (by omega)
  have M28 : dfM μ28 δ := by rw [e28]; exact (hM.w F24).i5 (by omega) (Nat.le_refl _)
  have G28 : lmF μ0 μ28 := by rw [e28]; exact (hF.tr F24.m).p (by omega) (by rw [show hf 708 = 5 from rfl]; omega)
  have g28 : μ28.1 10 0 18 = nI n := by rw [e28, gsI_off (by omega), F24.2.1 18 (by omega)]; exact h18
  have a28 : μ28.1 708 0 (5 + δ.1.1) = v25 := by rw [e28, gsI_s]
  clear e28
  refine ⟨3, _, by omega, e_numeral (lo := 0) (hi := 99) (by omega) hWd rfl rfl (by omega) (by omega) S28, ?_⟩
  rintro v34 μ33 ⟨F33, q33⟩
  refine ⟨5 + δ.1.1, by omega, rfl, ?_⟩
  rintro μ37 e37
  have S37 := (q33.st).put (k := 709) (j := 5 + δ.1.1) (v := v34) (by omega)
  rw [← e37] at S37
  have M37 : dfM μ37 δ := by rw [e37]; exact (M28.w F33).i5 (by omega) (Nat.le_refl _)
  have G37 : lmF μ0 μ37 := by rw [e37]; exact (G28.tr F33.m).p (by omega) (by rw [show hf 709 = 5 from rfl]; omega)
  have g37 : μ37.1 10 0 18 = nI n := by rw [e37, gsI_off (by omega), F33.2.1 18 (by omega)]; exact g28
  have a37 : μ37.1 708 0 (5 + δ.1.1) = v25 := by rw [e37, gsI_off (by omega), F33.1 708 0 (by omega)]; exact a28
  have b37 : μ37.1 709 0 (5 + δ.1.1) = v34 := by rw [e37, gsI_s]
  clear e37
  refine ⟨3, _, by omega, e_numeral (lo := 0) (hi := 99) (by omega) hWd rfl rfl (by omega) (by omega) S37, ?_⟩
  rintro v43 μ42 ⟨F42, q42⟩
  refine ⟨5 + δ.1.1, by omega, rfl, ?_⟩
  rintro μ46 e46
  have S46 := (q42.st).put (k := 710) (j := 5 + δ.1.1) (v := v43) (by omega)
  rw [← e46] at S46
  have M46 : dfM μ46 δ := by rw [e46]; exact (M37.w F42).i5 (by omega) (Nat.le_refl _)
  have G46 : lmF μ0 μ46 := by rw [e46]; exact (G37.tr F42.m).p (by omega) (by rw [show hf 710 = 5 from rfl]; omega)
  have g46 : μ46.1 10 0 18 = nI n := by rw [e46, gsI_off (by omega), F42.2.1 18 (by omega)]; exact g37
  have a46 : μ46.1 708 0 (5 + δ.1.1) = v25 := by rw [e46, gsI_off (by omega), F42.1 708 0 (by omega)]; exact a37
  have b46 : μ46.1 709 0 (5 + δ.1.1) = v34 := by rw [e46, gsI_off (by omega), F42.1 709 0 (by omega)]; exact b37
  have c46 : μ46.1 710 0 (5 + δ.1.1) = v43 := by rw [e46, gsI_s]
  clear e46
  refine ⟨3, _, by omega, e_numeral (lo := 0) (hi := 99) (by omega) hWd rfl rfl (by omega) (by omega) S46, ?_⟩
  rintro v52 μ51 ⟨F51, q51⟩
  refine ⟨5 + δ.1.1, by omega, rfl, ?_⟩
  rintro μ55 e55
  have M55 : dfM μ55 δ := by rw [e55]; exact (M46.w F51).i5 (by omega) (Nat.le_refl _)
  have G55 : lmF μ0 μ55 := by rw [e55]; exact (G46.tr F51.m).p (by omega) (by rw [show hf 711 = 5 from rfl]; omega)
  have g55 : μ55.1 10 0 18 = nI n := by rw [e55, gsI_off (by omega), F51.2.1 18 (by omega)]; exact g46
  have a55 : μ55.1 708 0 (5 + δ.1.1) = v25 := by rw [e55, gsI_off (by omega), F51.1 708 0 (by omega)]; exact a46
  have b55 : μ55.1 709 0 (5 + δ.1.1) = v34 := by rw [e55, gsI_off (by omega), F51.1 709 0 (by omega)]; exact b46
  have c55 : μ55.1 710 0 (5 + δ.1.1) = v43 := by rw [e55, gsI_off (by omega), F51.1 710 0 (by omega)]; exact c46
  have d55 : μ55.1 711 0 (5 + δ.1.1) = v52 := by rw [e55, gsI_s]
  refine ⟨by omega, by omega, ?_⟩
  rw [M55.1.1, nI_1]
  rintro μ62 e62
  have M62 := M55.man a55 b55 c55 d55
  rw [← e62] at M62
  have G62 : lmF μ0 μ62 := by rw [e62]; exact G55.p (by omega) (by rw [show hf 707 = 10 from rfl]; omega)
  have g62 : μ62.1 10 0 18 = nI n := by rw [e62, gsI_off (by omega)]; exact g55
  have lf : ∀ k q, flM μ51 k q → flM μ62 k q := fun k q w => w.of (fun j _ => by rw [e62, gsI_off (by omega), e55, gsI_off (by omega)])
  have lr : ∀ q, rlM lg tb L μ51 q → rlM lg tb L μ62 q := fun q w => w.of (fun j _ => by rw [e62, gsI_off (by omega), e55, gsI_off (by omega)]) (by rw [e62, gsI_off (by omega), e55, gsI_off (by omega)])
  refine line_3 (by omega) hWd G62 g62 (R := lnM lg tb L δ p) (by unfold lnR; rw [if_pos hk]) ?_
  have eL : lnM lg tb L δ p = lnM lg tb L δ p := rfl
  conv at eL => rhs; unfold lnM
  rw [if_neg (by omega)] at eL
  obtain ⟨X, hX⟩ : ∃ X, nwR lg tb L δ.1.2.1 δ.1.1 (nxP lg tb L p) = X := ⟨_, rfl⟩
  rw [hX] at q24 q33 q42 q51
  rcases X with ⟨k, q⟩ | ⟨w, q0⟩
  · rw [eL, bnd_l hX]
    exact lf k q q51
  rw [bnd_r hX] at eL
  have q33 : rsM lg tb L (nuR lg tb L 0 99 q0) v34 μ33 := q33
  have q42 : rsM lg tb L (bnd (nuR lg tb L 0 99 q0) fun _ q => nuR lg tb L 0 99 q) v43 μ42 := q42
  have q51 : rsM lg tb L (bnd (bnd (nuR lg tb L 0 99 q0) fun _ q => nuR lg tb L 0 99 q) fun _ q => nuR lg tb L 0 99 q) v52 μ51 := q51
  obtain ⟨Y, hY⟩ : ∃ Y, nuR lg tb L 0 99 q0 = Y := ⟨_, rfl⟩
  rw [hY] at q33 q42 q51
  rcases Y with ⟨k, q⟩ | ⟨g, q1⟩
  · rw [eL, bnd_l hY]
    exact lf k q q51
  rw [bnd_r hY] at eL
  have q42 : rsM lg tb L (nuR lg tb L 0 99 q1) v43 μ42 := q42
  have q51 : rsM lg tb L (bnd (nuR lg tb L 0 99 q1) fun _ q => nuR lg tb L 0 99 q) v52 μ51 := q51
  obtain ⟨Z, hZ⟩ : ∃ Z, nuR lg tb L 0 99 q1 = Z := ⟨_, rfl⟩
  rw [hZ] at q42 q51
  rcases Z with ⟨k, q⟩ | ⟨b, q2⟩
  · rw [eL, bnd_l hZ]
    exact lf k q q51
  rw [bnd_r hZ] at eL
  have q51 : rsM lg tb L (nuR lg tb L 0 99 q2) v52 μ51 := q51
  obtain ⟨U, hU⟩ : ∃ U, nuR lg tb L 0 99 q2 = U := ⟨_, rfl⟩
  rw [hU] at q51
  rcases U with ⟨k, q⟩ | ⟨u, q3⟩
  · rw [eL, bnd_l hU]
    exact lf k q q51
  rw [bnd_r hU] at eL
  have ok := lnM_ok eL hp hO.2.1 hO.1
  rw [eL]
  refine ⟨lr q3 q51.2, ?_, ok.2.2.1, ok.2.1, ok.1, hO.2.2.of (by rw [ok.2.2.2])⟩
  rw [← q24.1, ← q33.1, ← q42.1, ← q51.1]
  exact M62
theorem line_deed (hd : 4 ≤ d) (hWd : WordC l D lg) (hF : lmF μ0 μ) (h18 : μ.1 10 0 18 = nI n) (hk : tkK lg tb L p = 1) (hp : p < L) (hfl : δ.2.1.1 < 6) (hO : okD δ) (h : rlM lg tb L μ (nxP lg tb L p)) (hM : dfM μ δ) : (0 < d) ∧ (∀ x2_15 : Int32, x2_15 = (6 : Int32) + (μ.1 707 0 11) → (0 < d) ∧ (∃ (d_20 : Nat) (q_21 : Int32 → gMem → Prop), d_20 < d ∧ Ctr l D d_20 yX10_fresh cX10_fresh 5 (some .int) [.ref (D.2.2 10 0), .ref (D.2.2 712 0), .int (6 : Int32), .int (μ.1 707 0 11)] μ (pI q_21) ∧ ∀ (v_25 : Int32) (μ_24 : gMem), q_21 v_25 μ_24 → ∃ j_27 : Nat, j_27 < 12 ∧ x2_15 = nI j_27 ∧ (∀ μ_28 : gMem, μ_28 = gsI μ_24 712 0 j_27 v_25 → ∃ (d_29 : Nat) (q_30 : Int32 → gMem → Prop), d_29 < d ∧ Ctr l D d_29 yX10_numeral cX10_numeral 4 (some .int) [.ref (D.2.2 10 0), .int (0 : Int32), .int (20 : Int32)] μ_28 (pI q_30) ∧ ∀ (v_34 : Int32) (μ_33 : gMem), q_30 v_34 μ_33 → ∃ j_36 : Nat, j_36 < 12 ∧ x2_15 = nI j_36 ∧ (∀ μ_37 : gMem, μ_37 = gsI μ_33 713 0 j_36 v_34 → ∃ (d_38 : Nat) (q_39 : Int32 → gMem → Prop), d_38 < d ∧ Ctr l D d_38 yX10_numeral cX10_numeral 4 (some .int) [.ref (D.2.2 10 0), .int (0 : Int32), .int (20 : Int32)] μ_37 (pI q_39) ∧ ∀ (v_43 : Int32) (μ_42 : gMem), q_39 v_43 μ_42 → ∃ j_45 : Nat, j_45 < 12 ∧ x2_15 = nI j_45 ∧ (∀ μ_46 : gMem, μ_46 = gsI μ_42 714 0 j_45 v_43 → ∃ (d_47 : Nat) (q_48 : Int32 → gMem → Prop), d_47 < d ∧ Ctr l D d_47 yX10_numeral cX10_numeral 4 (some .int) [.ref (D.2.2 10 0), .int (0 : Int32), .int (9 : Int32)] μ_46 (pI q_48) ∧ ∀ (v_52 : Int32) (μ_51 : gMem), q_48 v_52 μ_51 → ∃ j_54 : Nat, j_54 < 12 ∧ x2_15 = nI j_54 ∧ (∀ μ_55 : gMem, μ_55 = gsI μ_51 715 0 j_54 v_52 → (0 < d) ∧ ((0 < d) ∧ (∀ μ_62 : gMem, μ_62 = gsI μ_55 707 0 11 ((μ_55.1 707 0 11) + (1 : Int32)) → pt_X10_line_3 l D d (fun μ' => lmF μ0 μ' ∧ lmR lg tb L p n (lneR lg tb L δ p) μ') Γ 0 μ_62)))))))) := by
  have hx : (6 : Int32) + μ.1 707 0 11 = nI (6 + δ.2.1.1) := by rw [hM.2.1.1]; exact nI_add 6 _
  refine ⟨by omega, ?_⟩
  rintro _ rfl
  rw [hx]
  refine ⟨by omega, 3, _, by omega, c_X10_fresh (a := 6) (m := δ.2.1.1) (Ln := 12) (by omega) hWd rfl (hM.2.1.1) (by decide) (by decide) (by decide) (by decide) (by omega) h, ?_⟩
  rintro v25 μ24 ⟨F24, q24⟩
  rw [nwR_cong (g := δ.2.1.2.1) (fun k hk => (hM.2.1.2 k hk).1)] at q24
  refine ⟨6 + δ.2.1.1, by omega, rfl, ?_⟩
  rintro μ28 e28
  have S28 : stM lg tb L μ28 (nwR lg tb L δ.2.1.2.1 δ.2.1.1 (nxP lg tb L p)) := by rw [e28]; exact q24.st.put (by omega)
  have M28 : dfM μ28 δ := by rw [e28]; exact (hM.w F24).i6 (by omega) (Nat.le_refl _)
  have G28 : lmF μ0 μ28 := by rw [e28]; exact (hF.tr F24.m).p (by omega) (by rw [show hf 712 = 6 from rfl]; omega)
  have g28 : μ28.1 10 0 18 = nI n := by rw [e28, gsI_off (by omega), F24.2.1 18 (by omega)]; exact h18
  have a28 : μ28.1 712 0 (6 + δ.2.1.1) = v25 := by rw [e28, gsI_s]
  clear e28
  refine ⟨3, _, by omega, e_numeral (lo := 0) (hi := 20) (by omega) hWd rfl rfl (by omega) (by omega) S28, ?_⟩
  rintro v34 μ33 ⟨F33, q33⟩
  refine ⟨6 + δ.2.1.1, by omega, rfl, ?_⟩
  rintro μ37 e37
  have S37 := (q33.st).put (k := 713) (j := 6 + δ.2.1.1) (v := v34) (by omega)
  rw [← e37] at S37
  have M37 : dfM μ37 δ := by rw [e37]; exact (M28.w F33).i6 (by omega) (Nat.le_refl _)
  have G37 : lmF μ0 μ37 := by rw [e37]; exact (G28.tr F33.m).p (by omega) (by rw [show hf 713 = 6 from rfl]; omega)
  have g37 : μ37.1 10 0 18 = nI n := by rw [e37, gsI_off (by omega), F33.2.1 18 (by omega)]; exact g28
  have a37 : μ37.1 712 0 (6 + δ.2.1.1) = v25 := by rw [e37, gsI_off (by omega), F33.1 712 0 (by omega)]; exact a28
  have b37 : μ37.1 713 0 (6 + δ.2.1.1) = v34 := by rw [e37, gsI_s]
  clear e37
  refine ⟨3, _, by omega, e_numeral (lo := 0) (hi := 20) (by omega) hWd rfl rfl (by omega) (by omega) S37, ?_⟩
  rintro v43 μ42 ⟨F42, q42⟩
  refine ⟨6 + δ.2.1.1, by omega, rfl, ?_⟩
  rintro μ46 e46
  have S46 := (q42.st).put (k := 714) (j := 6 + δ.2.1.1) (v := v43) (by omega)
  rw [← e46] at S46
  have M46 : dfM μ46 δ := by rw [e46]; exact (M37.w F42).i6 (by omega) (Nat.le_refl _)
  have G46 : lmF μ0 μ46 := by rw [e46]; exact (G37.tr F42.m).p (by omega) (by rw [show hf 714 = 6 from rfl]; omega)
  have g46 : μ46.1 10 0 18 = nI n := by rw [e46, gsI_off (by omega), F42.2.1 18 (by omega)]; exact g37
  have a46 : μ46.1 712 0 (6 + δ.2.1.1) = v25 := by rw [e46, gsI_off (by omega), F42.1 712 0 (by omega)]; exact a37
  have b46 : μ46.1 713 0 (6 + δ.2.1.1) = v34 := by rw [e46, gsI_off (by omega), F42.1 713 0 (by omega)]; exact b37
  have c46 : μ46.1 714 0 (6 + δ.2.1.1) = v43 := by rw [e46, gsI_s]
  clear e46
  refine ⟨3, _, by omega, e_numeral (lo := 0) (hi := 9) (by omega) hWd rfl rfl (by omega) (by omega) S46, ?_⟩
  rintro v52 μ51 ⟨F51, q51⟩
  refine ⟨6 + δ.2.1.1, by omega, rfl, ?_⟩
  rintro μ55 e55
  have M55 : dfM μ55 δ := by rw [e55]; exact (M46.w F51).i6 (by omega) (Nat.le_refl _)
  have G55 : lmF μ0 μ55 := by rw [e55]; exact (G46.tr F51.m).p (by omega) (by rw [show hf 715 = 6 from rfl]; omega)
  have g55 : μ55.1 10 0 18 = nI n := by rw [e55, gsI_off (by omega), F51.2.1 18 (by omega)]; exact g46
  have a55 : μ55.1 712 0 (6 + δ.2.1.1) = v25 := by rw [e55, gsI_off (by omega), F51.1 712 0 (by omega)]; exact a46
  have b55 : μ55.1 713 0 (6 + δ.2.1.1) = v34 := by rw [e55, gsI_off (by omega), F51.1 713 0 (by omega)]; exact b46
  have c55 : μ55.1 714 0 (6 + δ.2.1.1) = v43 := by rw [e55, gsI_off (by omega), F51.1 714 0 (by omega)]; exact c46
  have d55 : μ55.1 715 0 (6 + δ.2.1.1) = v52 := by rw [e55, gsI_s]
  refine ⟨by omega, by omega, ?_⟩
  rw [M55.2.1.1, nI_1]
  rintro μ62 e62
  have M62 := M55.deed a55 b55 c55 d55
  rw [← e62] at M62
  have G62 : lmF μ0 μ62 := by rw [e62]; exact G55.p (by omega) (by rw [show hf 707 = 10 from rfl]; omega)
  have g62 : μ62.1 10 0 18 = nI n := by rw [e62, gsI_off (by omega)]; exact g55
  have lf : ∀ k q, flM μ51 k q → flM μ62 k q := fun k q w => w.of (fun j _ => by rw [e62, gsI_off (by omega), e55, gsI_off (by omega)])
  have lr : ∀ q, rlM lg tb L μ51 q → rlM lg tb L μ62 q := fun q w => w.of (fun j _ => by rw [e62, gsI_off (by omega), e55, gsI_off (by omega)]) (by rw [e62, gsI_off (by omega), e55, gsI_off (by omega)])
  refine line_3 (by omega) hWd G62 g62 (R := lnD lg tb L δ p) (by unfold lnR; rw [if_neg (by rw [hk]; decide), if_pos hk]) ?_
  have eL : lnD lg tb L δ p = lnD lg tb L δ p := rfl
  conv at eL => rhs; unfold lnD
  rw [if_neg (by omega)] at eL
  obtain ⟨X, hX⟩ : ∃ X, nwR lg tb L δ.2.1.2.1 δ.2.1.1 (nxP lg tb L p) = X := ⟨_, rfl⟩
  rw [hX] at q24 q33 q42 q51
  rcases X with ⟨k, q⟩ | ⟨w, q0⟩
  · rw [eL, bnd_l hX]
    exact lf k q q51
  rw [bnd_r hX] at eL
  have q33 : rsM lg tb L (nuR lg tb L 0 20 q0) v34 μ33 := q33
  have q42 : rsM lg tb L (bnd (nuR lg tb L 0 20 q0) fun _ q => nuR lg tb L 0 20 q) v43 μ42 := q42
  have q51 : rsM lg tb L (bnd (bnd (nuR lg tb L 0 20 q0) fun _ q => nuR lg tb L 0 20 q) fun _ q => nuR lg tb L 0 9 q) v52 μ51 := q51
  obtain ⟨Y, hY⟩ : ∃ Y, nuR lg tb L 0 20 q0 = Y := ⟨_, rfl⟩
  rw [hY] at q33 q42 q51
  rcases Y with ⟨k, q⟩ | ⟨g, q1⟩
  · rw [eL, bnd_l hY]
    exact lf k q q51
  rw [bnd_r hY] at eL
  have q42 : rsM lg tb L (nuR lg tb L 0 20 q1) v43 μ42 := q42
  have q51 : rsM lg tb L (bnd (nuR lg tb L 0 20 q1) fun _ q => nuR lg tb L 0 9 q) v52 μ51 := q51
  obtain ⟨Z, hZ⟩ : ∃ Z, nuR lg tb L 0 20 q1 = Z := ⟨_, rfl⟩
  rw [hZ] at q42 q51
  rcases Z with ⟨k, q⟩ | ⟨b, q2⟩
  · rw [eL, bnd_l hZ]
    exact lf k q q51
  rw [bnd_r hZ] at eL
  have q51 : rsM lg tb L (nuR lg tb L 0 9 q2) v52 μ51 := q51
  obtain ⟨U, hU⟩ : ∃ U, nuR lg tb L 0 9 q2 = U := ⟨_, rfl⟩
  rw [hU] at q51
  rcases U with ⟨k, q⟩ | ⟨u, q3⟩
  · rw [eL, bnd_l hU]
    exact lf k q q51
  rw [bnd_r hU] at eL
  have ok := lnD_ok eL hp hO.2.1 hO.1
  rw [eL]
  refine ⟨lr q3 q51.2, ?_, ok.2.2.1, ok.2.1, ok.1, hO.2.2.of (by rw [ok.2.2.2])⟩
  rw [← q24.1, ← q33.1, ← q42.1, ← q51.1]
  exact M62
theorem line_bet (hd : 4 ≤ d) (hWd : WordC l D lg) (hF : lmF μ0 μ) (h18 : μ.1 10 0 18 = nI n) (hk : tkK lg tb L p = 3) (hp : p < L) (hfl : ¬ δ.2.2.2.2.2 3 = true) (hO : okD δ) (h : rlM lg tb L μ (nxP lg tb L p)) (hM : dfM μ (δ.1, δ.2.1, δ.2.2.1, δ.2.2.2.1, δ.2.2.2.2.1, upB δ.2.2.2.2.2 3 true)) : ∃ (d_124 : Nat) (q_125 : Int32 → gMem → Prop), d_124 < d ∧ Ctr l D d_124 yX10_numeral cX10_numeral 4 (some .int) [.ref (D.2.2 10 0), .int (0 : Int32), .int (999 : Int32)] μ (pI q_125) ∧ ∀ (v_129 : Int32) (μ_128 : gMem), q_125 v_129 μ_128 → (0 < d) ∧ (∀ μ_133 : gMem, μ_133 = gsI μ_128 707 0 13 v_129 → ∃ (d_135 : Nat) (q_136 : Int32 → gMem → Prop), d_135 < d ∧ Ctr l D d_135 yX10_numeral cX10_numeral 4 (some .int) [.ref (D.2.2 10 0), .int (1 : Int32), .int (14 : Int32)] μ_133 (pI q_136) ∧ ∀ (v_140 : Int32) (μ_139 : gMem), q_136 v_140 μ_139 → (0 < d) ∧ (∀ μ_144 : gMem, μ_144 = gsI μ_139 707 0 14 v_140 → pt_X10_line_3 l D d (fun μ' => lmF μ0 μ' ∧ lmR lg tb L p n (lneR lg tb L δ p) μ') Γ 0 μ_144)) := by
  refine ⟨3, _, by omega, c_X10_numeral (lo := 0) (hi := 999) (by omega) hWd rfl rfl (by omega) (by omega) h, ?_⟩
  rintro v1 μ1 ⟨F1, q1⟩
  refine ⟨by omega, ?_⟩
  rintro μ2 e2
  have S2 := (q1.st).put (k := 707) (j := 13) (v := v1) (by omega)
  rw [← e2] at S2
  have M2 := (hM.w F1).num (i := 3) (n := 13) (x := v1) (by omega) rfl
  rw [← e2] at M2
  have G2 : lmF μ0 μ2 := by rw [e2]; exact (hF.tr F1.m).p (by omega) (by rw [show hf 707 = 10 from rfl]; omega)
  have g2 : μ2.1 10 0 18 = nI n := by rw [e2, gsI_off (by omega), F1.2.1 18 (by omega)]; exact h18
  clear e2
  refine ⟨3, _, by omega, e_numeral (lo := 1) (hi := 14) (by omega) hWd rfl rfl (by omega) (by omega) S2, ?_⟩
  rintro v3 μ3 ⟨F3, q3⟩
  refine ⟨by omega, ?_⟩
  rintro μ4 e4
  have M4 := (M2.w F3).num (i := 4) (n := 14) (x := v3) (by omega) rfl
  rw [← e4] at M4
  have G4 : lmF μ0 μ4 := by rw [e4]; exact (G2.tr F3.m).p (by omega) (by rw [show hf 707 = 10 from rfl]; omega)
  have g4 : μ4.1 10 0 18 = nI n := by rw [e4, gsI_off (by omega), F3.2.1 18 (by omega)]; exact g2
  have lf : ∀ k q, flM μ3 k q → flM μ4 k q := fun k q w => w.of (fun j _ => by rw [e4, gsI_off (by omega)])
  have lr : ∀ q, rlM lg tb L μ3 q → rlM lg tb L μ4 q := fun q w => w.of (fun j _ => by rw [e4, gsI_off (by omega)]) (by rw [e4, gsI_off (by omega)])
  refine line_3 (by omega) hWd G4 g4 (R := ln2 lg tb L 3 3 0 999 1 14 δ p) (by unfold lnR; rw [if_neg (by rw [hk]; decide), if_neg (by rw [hk]; decide), if_neg (by rw [hk]; decide), if_pos hk]) ?_
  have eL : ln2 lg tb L 3 3 0 999 1 14 δ p = ln2 lg tb L 3 3 0 999 1 14 δ p := rfl
  conv at eL => rhs; unfold ln2
  rw [if_neg hfl] at eL
  have q1 : rsM lg tb L (nuR lg tb L 0 999 (nxP lg tb L p)) v1 μ1 := q1
  have q3 : rsM lg tb L (bnd (nuR lg tb L 0 999 (nxP lg tb L p)) fun _ q => nuR lg tb L 1 14 q) v3 μ3 := q3
  obtain ⟨Y, hY⟩ : ∃ Y, nuR lg tb L 0 999 (nxP lg tb L p) = Y := ⟨_, rfl⟩
  rw [hY] at q1 q3
  rcases Y with ⟨k, q⟩ | ⟨g, r1⟩
  · rw [eL, bnd_l hY]
    exact lf k q q3
  rw [bnd_r hY] at eL
  have q3 : rsM lg tb L (nuR lg tb L 1 14 r1) v3 μ3 := q3
  obtain ⟨Z, hZ⟩ : ∃ Z, nuR lg tb L 1 14 r1 = Z := ⟨_, rfl⟩
  rw [hZ] at q3
  rcases Z with ⟨k, q⟩ | ⟨b, r2⟩
  · rw [eL, bnd_l hZ]
    exact lf k q q3
  rw [bnd_r hZ] at eL
  have ok := ln2_ok eL (by omega) hp hO.2.1 hO.1
  rw [eL]
  refine ⟨lr r2 q3.2, ?_, ok.2.2.1, ok.2.1, ok.1, hO.2.2.of ok.2.2.2⟩
  rw [← q1.1, ← q3.1]
  exact M4
theorem line_pay (hd : 4 ≤ d) (hWd : WordC l D lg) (hF : lmF μ0 μ) (h18 : μ.1 10 0 18 = nI n) (hk : tkK lg tb L p = 4) (hp : p < L) (hfl : ¬ δ.2.2.2.2.2 4 = true) (hO : okD δ) (h : rlM lg tb L μ (nxP lg tb L p)) (hM : dfM μ (δ.1, δ.2.1, δ.2.2.1, δ.2.2.2.1, δ.2.2.2.2.1, upB δ.2.2.2.2.2 4 true)) : ∃ (d_124 : Nat) (q_125 : Int32 → gMem → Prop), d_124 < d ∧ Ctr l D d_124 yX10_numeral cX10_numeral 4 (some .int) [.ref (D.2.2 10 0), .int (0 : Int32), .int (99 : Int32)] μ (pI q_125) ∧ ∀ (v_129 : Int32) (μ_128 : gMem), q_125 v_129 μ_128 → (0 < d) ∧ (∀ μ_133 : gMem, μ_133 = gsI μ_128 707 0 15 v_129 → ∃ (d_135 : Nat) (q_136 : Int32 → gMem → Prop), d_135 < d ∧ Ctr l D d_135 yX10_numeral cX10_numeral 4 (some .int) [.ref (D.2.2 10 0), .int (0 : Int32), .int (999 : Int32)] μ_133 (pI q_136) ∧ ∀ (v_140 : Int32) (μ_139 : gMem), q_136 v_140 μ_139 → (0 < d) ∧ (∀ μ_144 : gMem, μ_144 = gsI μ_139 707 0 16 v_140 → pt_X10_line_3 l D d (fun μ' => lmF μ0 μ' ∧ lmR lg tb L p n (lneR lg tb L δ p) μ') Γ 0 μ_144)) := by
  refine ⟨3, _, by omega, c_X10_numeral (lo := 0) (hi := 99) (by omega) hWd rfl rfl (by omega) (by omega) h, ?_⟩
  rintro v1 μ1 ⟨F1, q1⟩
  refine ⟨by omega, ?_⟩
  rintro μ2 e2
  have S2 := (q1.st).put (k := 707) (j := 15) (v := v1) (by omega)
  rw [← e2] at S2
  have M2 := (hM.w F1).num (i := 5) (n := 15) (x := v1) (by omega) rfl
  rw [← e2] at M2
  have G2 : lmF μ0 μ2 := by rw [e2]; exact (hF.tr F1.m).p (by omega) (by rw [show hf 707 = 10 from rfl]; omega)
  have g2 : μ2.1 10 0 18 = nI n := by rw [e2, gsI_off (by omega), F1.2.1 18 (by omega)]; exact h18
  clear e2
  refine ⟨3, _, by omega, e_numeral (lo := 0) (hi := 999) (by omega) hWd rfl rfl (by omega) (by omega) S2, ?_⟩
  rintro v3 μ3 ⟨F3, q3⟩
  refine ⟨by omega, ?_⟩
  rintro μ4 e4
  have M4 := (M2.w F3).num (i := 6) (n := 16) (x := v3) (by omega) rfl
  rw [← e4] at M4
  have G4 : lmF μ0 μ4 := by rw [e4]; exact (G2.tr F3.m).p (by omega) (by rw [show hf 707 = 10 from rfl]; omega)
  have g4 : μ4.1 10 0 18 = nI n := by rw [e4, gsI_off (by omega), F3.2.1 18 (by omega)]; exact g2
  have lf : ∀ k q, flM μ3 k q → flM μ4 k q := fun k q w => w.of (fun j _ => by rw [e4, gsI_off (by omega)])
  have lr : ∀ q, rlM lg tb L μ3 q → rlM lg tb L μ4 q := fun q w => w.of (fun j _ => by rw [e4, gsI_off (by omega)]) (by rw [e4, gsI_off (by omega)])
  refine line_3 (by omega) hWd G4 g4 (R := ln2 lg tb L 4 5 0 99 0 999 δ p) (by unfold lnR; rw [if_neg (by rw [hk]; decide), if_neg (by rw [hk]; decide), if_neg (by rw [hk]; decide), if_neg (by rw [hk]; decide), if_pos hk]) ?_
  have eL : ln2 lg tb L 4 5 0 99 0 999 δ p = ln2 lg tb L 4 5 0 99 0 999 δ p := rfl
  conv at eL => rhs; unfold ln2
  rw [if_neg hfl] at eL
  have q1 : rsM lg tb L (nuR lg tb L 0 99 (nxP lg tb L p)) v1 μ1 := q1
  have q3 : rsM lg tb L (bnd (nuR lg tb L 0 99 (nxP lg tb L p)) fun _ q => nuR lg tb L 0 999 q) v3 μ3 := q3
  obtain ⟨Y, hY⟩ : ∃ Y, nuR lg tb L 0 99 (nxP lg tb L p) = Y := ⟨_, rfl⟩
  rw [hY] at q1 q3
  rcases Y with ⟨k, q⟩ | ⟨g, r1⟩
  · rw [eL, bnd_l hY]
    exact lf k q q3
  rw [bnd_r hY] at eL
  have q3 : rsM lg tb L (nuR lg tb L 0 999 r1) v3 μ3 := q3
  obtain ⟨Z, hZ⟩ : ∃ Z, nuR lg tb L 0 999 r1 = Z := ⟨_, rfl⟩
  rw [hZ] at q3
  rcases Z with ⟨k, q⟩ | ⟨b, r2⟩
  · rw [eL, bnd_l hZ]
    exact lf k q q3
  rw [bnd_r hZ] at eL
  have ok := ln2_ok eL (by omega) hp hO.2.1 hO.1
  rw [eL]
  refine ⟨lr r2 q3.2, ?_, ok.2.2.1, ok.2.1, ok.1, hO.2.2.of ok.2.2.2⟩
  rw [← q1.1, ← q3.1]
  exact M4
theorem line_rain (hd : 4 ≤ d) (hWd : WordC l D lg) (hF : lmF μ0 μ) (h18 : μ.1 10 0 18 = nI n) (hk : tkK lg tb L p = 5) (hp : p < L) (hfl : ¬ δ.2.2.2.2.2 5 = true) (hO : okD δ) (h : rlM lg tb L μ (nxP lg tb L p)) (hM : dfM μ (δ.1, δ.2.1, δ.2.2.1, δ.2.2.2.1, δ.2.2.2.2.1, upB δ.2.2.2.2.2 5 true)) : ∃ (d_124 : Nat) (q_125 : Int32 → gMem → Prop), d_124 < d ∧ Ctr l D d_124 yX10_numeral cX10_numeral 4 (some .int) [.ref (D.2.2 10 0), .int (0 : Int32), .int (100 : Int32)] μ (pI q_125) ∧ ∀ (v_129 : Int32) (μ_128 : gMem), q_125 v_129 μ_128 → (0 < d) ∧ (∀ μ_133 : gMem, μ_133 = gsI μ_128 707 0 17 v_129 → pt_X10_line_3 l D d (fun μ' => lmF μ0 μ' ∧ lmR lg tb L p n (lneR lg tb L δ p) μ') Γ 0 μ_133) := by
  refine ⟨3, _, by omega, c_X10_numeral (lo := 0) (hi := 100) (by omega) hWd rfl rfl (by omega) (by omega) h, ?_⟩
  rintro v1 μ1 ⟨F1, q1⟩
  refine ⟨by omega, ?_⟩
  rintro μ2 e2
  have M2 := (hM.w F1).num (i := 7) (n := 17) (x := v1) (by omega) rfl
  rw [← e2] at M2
  have G2 : lmF μ0 μ2 := by rw [e2]; exact (hF.tr F1.m).p (by omega) (by rw [show hf 707 = 10 from rfl]; omega)
  have g2 : μ2.1 10 0 18 = nI n := by rw [e2, gsI_off (by omega), F1.2.1 18 (by omega)]; exact h18
  have lf : ∀ k q, flM μ1 k q → flM μ2 k q := fun k q w => w.of (fun j _ => by rw [e2, gsI_off (by omega)])
  have lr : ∀ q, rlM lg tb L μ1 q → rlM lg tb L μ2 q := fun q w => w.of (fun j _ => by rw [e2, gsI_off (by omega)]) (by rw [e2, gsI_off (by omega)])
  refine line_3 (by omega) hWd G2 g2 (R := ln1 lg tb L 5 7 0 100 δ p) (by unfold lnR; rw [if_neg (by rw [hk]; decide), if_neg (by rw [hk]; decide), if_neg (by rw [hk]; decide), if_neg (by rw [hk]; decide), if_neg (by rw [hk]; decide), if_pos hk]) ?_
  have eL : ln1 lg tb L 5 7 0 100 δ p = ln1 lg tb L 5 7 0 100 δ p := rfl
  conv at eL => rhs; unfold ln1
  rw [if_neg hfl] at eL
  have q1 : rsM lg tb L (nuR lg tb L 0 100 (nxP lg tb L p)) v1 μ1 := q1
  obtain ⟨Y, hY⟩ : ∃ Y, nuR lg tb L 0 100 (nxP lg tb L p) = Y := ⟨_, rfl⟩
  rw [hY] at q1
  rcases Y with ⟨k, q⟩ | ⟨g, r1⟩
  · rw [eL, bnd_l hY]
    exact lf k q q1
  rw [bnd_r hY] at eL
  have ok := ln1_ok eL (by omega) hp hO.2.1 hO.1
  rw [eL]
  refine ⟨lr r1 q1.2, ?_, ok.2.2.1, ok.2.1, ok.1, hO.2.2.of ok.2.2.2⟩
  rw [← q1.1]
  exact M2
theorem line_seed (hd : 4 ≤ d) (hWd : WordC l D lg) (hF : lmF μ0 μ) (h18 : μ.1 10 0 18 = nI n) (hk : tkK lg tb L p = 6) (hp : p < L) (hfl : ¬ δ.2.2.2.2.2 6 = true) (hO : okD δ) (h : rlM lg tb L μ (nxP lg tb L p)) (hM : dfM μ (δ.1, δ.2.1, δ.2.2.1, δ.2.2.2.1, δ.2.2.2.2.1, upB δ.2.2.2.2.2 6 true)) : ∃ (d_124 : Nat) (q_125 : Int32 → gMem → Prop), d_124 < d ∧ Ctr l D d_124 yX10_numeral cX10_numeral 4 (some .int) [.ref (D.2.2 10 0), .int (0 : Int32), .int (99999 : Int32)] μ (pI q_125) ∧ ∀ (v_129 : Int32) (μ_128 : gMem), q_125 v_129 μ_128 → (0 < d) ∧ (∀ μ_133 : gMem, μ_133 = gsI μ_128 707 0 18 v_129 → pt_X10_line_3 l D d (fun μ' => lmF μ0 μ' ∧ lmR lg tb L p n (lneR lg tb L δ p) μ') Γ 0 μ_133) := by
  refine ⟨3, _, by omega, c_X10_numeral (lo := 0) (hi := 99999) (by omega) hWd rfl rfl (by omega) (by omega) h, ?_⟩
  rintro v1 μ1 ⟨F1, q1⟩
  refine ⟨by omega, ?_⟩
  rintro μ2 e2
  have M2 := (hM.w F1).num (i := 8) (n := 18) (x := v1) (by omega) rfl
  rw [← e2] at M2
  have G2 : lmF μ0 μ2 := by rw [e2]; exact (hF.tr F1.m).p (by omega) (by rw [show hf 707 = 10 from rfl]; omega)
  have g2 : μ2.1 10 0 18 = nI n := by rw [e2, gsI_off (by omega), F1.2.1 18 (by omega)]; exact h18
  have lf : ∀ k q, flM μ1 k q → flM μ2 k q := fun k q w => w.of (fun j _ => by rw [e2, gsI_off (by omega)])
  have lr : ∀ q, rlM lg tb L μ1 q → rlM lg tb L μ2 q := fun q w => w.of (fun j _ => by rw [e2, gsI_off (by omega)]) (by rw [e2, gsI_off (by omega)])
  refine line_3 (by omega) hWd G2 g2 (R := ln1 lg tb L 6 8 0 99999 δ p) (by unfold lnR; rw [if_neg (by rw [hk]; decide), if_neg (by rw [hk]; decide), if_neg (by rw [hk]; decide), if_neg (by rw [hk]; decide), if_neg (by rw [hk]; decide), if_neg (by rw [hk]; decide), if_pos hk]) ?_
  have eL : ln1 lg tb L 6 8 0 99999 δ p = ln1 lg tb L 6 8 0 99999 δ p := rfl
  conv at eL => rhs; unfold ln1
  rw [if_neg hfl] at eL
  have q1 : rsM lg tb L (nuR lg tb L 0 99999 (nxP lg tb L p)) v1 μ1 := q1
  obtain ⟨Y, hY⟩ : ∃ Y, nuR lg tb L 0 99999 (nxP lg tb L p) = Y := ⟨_, rfl⟩
  rw [hY] at q1
  rcases Y with ⟨k, q⟩ | ⟨g, r1⟩
  · rw [eL, bnd_l hY]
    exact lf k q q1
  rw [bnd_r hY] at eL
  have ok := ln1_ok eL (by omega) hp hO.2.1 hO.1
  rw [eL]
  refine ⟨lr r1 q1.2, ?_, ok.2.2.1, ok.2.1, ok.1, hO.2.2.of ok.2.2.2⟩
  rw [← q1.1]
  exact M2
end MM
