/-! the class's lines: man, deed, bet, pay, rain, seed -/
section CL
variable {l : Launch} {D : gD} {d : Nat} {μ μ0 μ1 : gMem} {lg : Nat → Int32} {tb : Nat → Nat} {L p e : Nat} {δ : dfT}
theorem rdC.rn {q : Nat} {μ' : gMem} (h : rdC lg tb L e μ p δ) (F : rnF μ μ') (hq : q ≤ L) (ha : atC lg tb L q μ') (h5 : ∀ j, ¬ j = 4 → μ'.1 5 0 j = μ.1 5 0 j) : rdC lg tb L e μ' q δ := ⟨by rw [F.2.2]; exact h.1, h.2.1.l (F.l (e := e)), hq, ha, h.2.2.2.2.1.of (fun k hk => F.1 k e (by omega)) (F.1 386 0 (by omega)), h.2.2.2.2.2.of h5⟩
theorem rdC.nx {μ' : gMem} (h : rdC lg tb L e μ p δ) (N : nkF μ μ') (ha : atC lg tb L (nxP lg tb L p) μ') : rdC lg tb L e μ' (nxP lg tb L p) δ := h.rn N.n (nxP_le h.2.2.1) ha (fun j _ => by rw [N.1 5 0 (by omega)])
theorem rdC.up {k j : Nat} {v : Int32} {δ' : dfT} (h : rdC lg tb L e μ p δ) (hk : k = 7 ∨ (513 ≤ k ∧ k ≤ 523)) (hd : dfC (gsI μ k e j v) e δ') : rdC lg tb L e (gsI μ k e j v) p δ' := ⟨h.1, h.2.1.l ((lnF.rf (e := e)).pe hk), h.2.2.1, by unfold atC; rw [gsI_off (by omega)]; exact h.2.2.2.1, hd, h.2.2.2.2.2.of (fun j _ => by rw [gsI_off (by omega)])⟩
theorem num_step {x1 x2 : Int32} {lo hi : Int} {F : Int32 → Nat → rsL dfT} {CONT : gMem → Prop} (hd : 4 ≤ d) (h1 : x1.toInt = lo) (h2 : x2.toInt = hi) (h : rdC lg tb L e μ1 p δ) (hF : lnF e μ0 μ1) (hc : ∀ a q ν, nuR lg tb L lo hi p = .inr (a, q) → rdC lg tb L e ν q δ → rnF μ1 ν → ν.1 5 0 4 = a → CONT ν) : ∃ (d' : Nat) (q' : Int32 → gMem → Prop), d' < d ∧ Ctr l D d' yX5_readNumber cX5_readNumber 3 (some .boolean) [.ref (D.2.2 5 0), .int x1, .int x2] μ1 (pI q') ∧ ∀ (v : Int32) (ν : gMem), q' v ν → ((¬ v = 0) → CONT ν) ∧ ((v = 0) → lnQ lg tb L e μ0 (bnd (nuR lg tb L lo hi p) F) 0 ν) := by
  refine ⟨3, _, by omega, c_X5_readNumber (by omega) h1 h2 h.2.1 h.2.2.1 h.2.2.2.1, ?_⟩
  rintro v ν ⟨F1, q1⟩
  obtain ⟨X, hX⟩ : ∃ X, nuR lg tb L lo hi p = X := ⟨_, rfl⟩
  rw [hX] at q1
  rcases X with ⟨k, q⟩ | ⟨a, q⟩
  · obtain ⟨a1, a2, a3⟩ := q1
    refine ⟨fun z => absurd a1 z, fun _ => ?_⟩
    rw [bnd_l hX]
    exact ⟨hF.tr F1.l, rfl, a2, a3⟩
  · obtain ⟨a1, a2, a3, a4⟩ := q1
    exact ⟨fun _ => hc a q ν hX (h.rn F1 a2 a3 a4.2) F1 a4.1, fun z => absurd (a1.symm.trans z) (by decide)⟩
theorem gn_5 (he : e < 2) : e < gkn 513 ∧ e < gkn 518 := by
  have : ∀ e, e < 2 → e < gkn 513 ∧ e < gkn 518 := by decide
  exact this e he
theorem c_X5_readMan (hd : 5 ≤ d) (he : e < 2) (h : rdC lg tb L e μ p δ) (hm : δ.1.1 ≤ 5) : Ctr l D d yX5_readMan cX5_readMan 2 (some .boolean) [.ref (D.2.2 5 0)] μ (pI (lnQ lg tb L e μ (lnM lg tb L δ p))) := by
  have h2 := h.1
  have h0 : μ.1 7 e 0 = nI δ.1.1 := h.2.2.2.2.1.1.1
  refine en_X5_readMan (fun Γ => bl_X5_readMan_0 (by decide) ⟨by omega, ?_⟩)
  rw [h2, h0]
  rintro _ rfl
  unfold lnM
  rw [show (5 : Int32) = nI 5 from rfl, nI_ltI (by omega) (by omega)]
  refine ⟨fun z => ⟨2, _, by omega, c_next (by omega) h.2.1 h.2.2.1 h.2.2.2.1, ?_⟩, fun z => ⟨0, _, by omega, c_X5_fail h.2.2.2.1, ?_⟩⟩
  · rw [if_neg (by omega)]
    rintro μ8 ⟨N, a8⟩
    have R8 : rdC lg tb L e μ8 (nxP lg tb L p) δ := h.nx N a8
    refine ⟨by have := R8.1; omega, ?_⟩
    rw [R8.1]
    refine ⟨3, _, by omega, c_X5_readNewName (m := δ.1.1) (Ln := 5) (by omega) rfl (by decide) (gn_5 he).1 (by decide) (by decide) (by omega) (by decide) R8.2.1 R8.2.2.1 R8.2.2.2.1, ?_⟩
    rintro v17 μ16 ⟨⟨μ9, h9, F9⟩, q1⟩
    rw [nwR_cong (g := δ.1.2.1) (fun k hk => (R8.2.2.2.2.1.1.2 k hk).1)] at q1
    obtain ⟨D9, F8⟩ : dfC μ9 e δ ∧ lnF e μ8 μ9 := by
      rcases h9 with h9 | h9
      · rw [h9]; exact ⟨R8.2.2.2.2.1, lnF.rf⟩
      · rw [h9]; exact ⟨R8.2.2.2.2.1.i5 (by omega) (Nat.le_refl _), lnF.rf.pe (by omega)⟩
    have F16 : lnF e μ μ16 := (N.n.l.tr F8).tr F9.l
    obtain ⟨X, hX⟩ : ∃ X, nwR lg tb L δ.1.2.1 δ.1.1 (nxP lg tb L p) = X := ⟨_, rfl⟩
    rw [hX] at q1
    rcases X with ⟨k, q⟩ | ⟨w, q⟩
    · obtain ⟨a1, a2, a3⟩ := q1
      refine ⟨fun _ => ?_, fun z => absurd a1 z⟩
      rw [bnd_l hX]
      exact ⟨F16, rfl, a2, a3⟩
    · obtain ⟨a1, a2, a3, a4, a5⟩ := q1
      refine ⟨fun z => absurd (a1.symm.trans z) (by decide), fun _ => ?_⟩
      rw [bnd_r hX]
      have R16 : rdC lg tb L e μ16 q δ := ⟨by rw [F16.2.2]; exact h2, h.2.1.l F16, a2, a3, D9.of (fun k hk => F9.1 k e (by omega)) (F9.1 386 0 (by omega)), R8.2.2.2.2.2.of (fun j _ => by rw [a5])⟩
      refine num_step (by omega) (by decide) (by decide) R16 F16 ?_
      rintro g q2 μ24 hX2 R24 F24 e24
      have F24' : lnF e μ μ24 := F16.tr F24.l
      refine ⟨by have := R24.1; omega, δ.1.1, by omega, rfl, ?_⟩
      rw [R24.1, e24, bnd_r hX2]
      rintro μ30 e30
      have R30 : rdC lg tb L e μ30 q2 δ := by rw [e30]; exact R24.up (by omega) (R24.2.2.2.2.1.i5 (by omega) (Nat.le_refl _))
      have F30 : lnF e μ μ30 := by rw [e30]; exact F24'.pe (by omega)
      have w30 : μ30.1 513 e δ.1.1 = w := by rw [e30, gsI_off (by omega), F24.1 513 e (by omega)]; exact a4
      have g30 : μ30.1 514 e δ.1.1 = g := by rw [e30, gsI_s]
      refine num_step (by omega) (by decide) (by decide) R30 F30 ?_
      rintro b q3 μ35 hX3 R35 F35 e35
      refine ⟨by have := R35.1; omega, δ.1.1, by omega, rfl, ?_⟩
      rw [R35.1, e35, bnd_r hX3]
      rintro μ41 e41
      have R41 : rdC lg tb L e μ41 q3 δ := by rw [e41]; exact R35.up (by omega) (R35.2.2.2.2.1.i5 (by omega) (Nat.le_refl _))
      have F41 : lnF e μ μ41 := by rw [e41]; exact (F30.tr F35.l).pe (by omega)
      have w41 : μ41.1 513 e δ.1.1 = w := by rw [e41, gsI_off (by omega), F35.1 513 e (by omega)]; exact w30
      have g41 : μ41.1 514 e δ.1.1 = g := by rw [e41, gsI_off (by omega), F35.1 514 e (by omega)]; exact g30
      have b41 : μ41.1 515 e δ.1.1 = b := by rw [e41, gsI_s]
      refine num_step (by omega) (by decide) (by decide) R41 F41 ?_
      rintro u q4 μ46 hX4 R46 F46 e46
      refine ⟨by have := R46.1; omega, δ.1.1, by omega, rfl, ?_⟩
      rw [R46.1, e46, bnd_r hX4]
      rintro μ52 e52
      have R52 : rdC lg tb L e μ52 q4 δ := by rw [e52]; exact R46.up (by omega) (R46.2.2.2.2.1.i5 (by omega) (Nat.le_refl _))
      have F52 : lnF e μ μ52 := by rw [e52]; exact (F41.tr F46.l).pe (by omega)
      have w52 : μ52.1 513 e δ.1.1 = w := by rw [e52, gsI_off (by omega), F46.1 513 e (by omega)]; exact w41
      have g52 : μ52.1 514 e δ.1.1 = g := by rw [e52, gsI_off (by omega), F46.1 514 e (by omega)]; exact g41
      have b52 : μ52.1 515 e δ.1.1 = b := by rw [e52, gsI_off (by omega), F46.1 515 e (by omega)]; exact b41
      have u52 : μ52.1 516 e δ.1.1 = u := by rw [e52, gsI_s]
      refine ⟨by have := R52.1; omega, ?_⟩
      rw [R52.1, R52.2.2.2.2.1.1.1, nI_1]
      rintro μ54 e54
      have R54 := R52.up (k := 7) (j := 0) (v := nI (δ.1.1 + 1)) (by omega) (R52.2.2.2.2.1.man w52 g52 b52 u52)
      rw [← e54] at R54
      exact ⟨by rw [e54]; exact F52.pe (by omega), rfl, R54.2.2.1, R54.2.2.2.1, R54.2.2.2.2⟩
  · rw [if_pos (by omega)]
    rintro v μ1 ⟨ev, F, a, b⟩
    rw [ev]
    exact ⟨Or.inl rfl, F.l, rfl, a, b⟩
theorem c_X5_readDeed (hd : 5 ≤ d) (he : e < 2) (h : rdC lg tb L e μ p δ) (hm : δ.2.1.1 ≤ 6) : Ctr l D d yX5_readDeed cX5_readDeed 2 (some .boolean) [.ref (D.2.2 5 0)] μ (pI (lnQ lg tb L e μ (lnD lg tb L δ p))) := by
  have h2 := h.1
  have h0 : μ.1 7 e 5 = nI δ.2.1.1 := h.2.2.2.2.1.2.1.1
  refine en_X5_readDeed (fun Γ => bl_X5_readDeed_0 (by decide) ⟨by omega, ?_⟩)
  rw [h2, h0]
  rintro _ rfl
  unfold lnD
  rw [show (6 : Int32) = nI 6 from rfl, nI_ltI (by omega) (by omega)]
  refine ⟨fun z => ⟨2, _, by omega, c_next (by omega) h.2.1 h.2.2.1 h.2.2.2.1, ?_⟩, fun z => ⟨0, _, by omega, c_X5_fail h.2.2.2.1, ?_⟩⟩
  · rw [if_neg (by omega)]
    rintro μ8 ⟨N, a8⟩
    have R8 : rdC lg tb L e μ8 (nxP lg tb L p) δ := h.nx N a8
    refine ⟨by have := R8.1; omega, ?_⟩
    rw [R8.1]
    refine ⟨3, _, by omega, c_X5_readNewName (m := δ.2.1.1) (Ln := 6) (by omega) rfl (by decide) (gn_5 he).2 (by decide) (by decide) (by omega) (by decide) R8.2.1 R8.2.2.1 R8.2.2.2.1, ?_⟩
    rintro v17 μ16 ⟨⟨μ9, h9, F9⟩, q1⟩
    rw [nwR_cong (g := δ.2.1.2.1) (fun k hk => (R8.2.2.2.2.1.2.1.2 k hk).1)] at q1
    obtain ⟨D9, F8⟩ : dfC μ9 e δ ∧ lnF e μ8 μ9 := by
      rcases h9 with h9 | h9
      · rw [h9]; exact ⟨R8.2.2.2.2.1, lnF.rf⟩
      · rw [h9]; exact ⟨R8.2.2.2.2.1.i6 (by omega) (Nat.le_refl _), lnF.rf.pe (by omega)⟩
    have F16 : lnF e μ μ16 := (N.n.l.tr F8).tr F9.l
    obtain ⟨X, hX⟩ : ∃ X, nwR lg tb L δ.2.1.2.1 δ.2.1.1 (nxP lg tb L p) = X := ⟨_, rfl⟩
    rw [hX] at q1
    rcases X with ⟨k, q⟩ | ⟨w, q⟩
    · obtain ⟨a1, a2, a3⟩ := q1
      refine ⟨fun _ => ?_, fun z => absurd a1 z⟩
      rw [bnd_l hX]
      exact ⟨F16, rfl, a2, a3⟩
    · obtain ⟨a1, a2, a3, a4, a5⟩ := q1
      refine ⟨fun z => absurd (a1.symm.trans z) (by decide), fun _ => ?_⟩
      rw [bnd_r hX]
      have R16 : rdC lg tb L e μ16 q δ := ⟨by rw [F16.2.2]; exact h2, h.2.1.l F16, a2, a3, D9.of (fun k hk => F9.1 k e (by omega)) (F9.1 386 0 (by omega)), R8.2.2.2.2.2.of (fun j _ => by rw [a5])⟩
      refine num_step (by omega) (by decide) (by decide) R16 F16 ?_
      rintro g q2 μ24 hX2 R24 F24 e24
      have F24' : lnF e μ μ24 := F16.tr F24.l
      refine ⟨by have := R24.1; omega, δ.2.1.1, by omega, rfl, ?_⟩
      rw [R24.1, e24, bnd_r hX2]
      rintro μ30 e30
      have R30 : rdC lg tb L e μ30 q2 δ := by rw [e30]; exact R24.up (by omega) (R24.2.2.2.2.1.i6 (by omega) (Nat.le_refl _))
      have F30 : lnF e μ μ30 := by rw [e30]; exact F24'.pe (by omega)
      have w30 : μ30.1 518 e δ.2.1.1 = w := by rw [e30, gsI_off (by omega), F24.1 518 e (by omega)]; exact a4
      have g30 : μ30.1 519 e δ.2.1.1 = g := by rw [e30, gsI_s]
      refine num_step (by omega) (by decide) (by decide) R30 F30 ?_
      rintro b q3 μ35 hX3 R35 F35 e35
      refine ⟨by have := R35.1; omega, δ.2.1.1, by omega, rfl, ?_⟩
      rw [R35.1, e35, bnd_r hX3]
      rintro μ41 e41
      have R41 : rdC lg tb L e μ41 q3 δ := by rw [e41]; exact R35.up (by omega) (R35.2.2.2.2.1.i6 (by omega) (Nat.le_refl _))
      have F41 : lnF e μ μ41 := by rw [e41]; exact (F30.tr F35.l).pe (by omega)
      have w41 : μ41.1 518 e δ.2.1.1 = w := by rw [e41, gsI_off (by omega), F35.1 518 e (by omega)]; exact w30
      have g41 : μ41.1 519 e δ.2.1.1 = g := by rw [e41, gsI_off (by omega), F35.1 519 e (by omega)]; exact g30
      have b41 : μ41.1 520 e δ.2.1.1 = b := by rw [e41, gsI_s]
      refine num_step (by omega) (by decide) (by decide) R41 F41 ?_
      rintro u q4 μ46 hX4 R46 F46 e46
      refine ⟨by have := R46.1; omega, δ.2.1.1, by omega, rfl, ?_⟩
      rw [R46.1, e46, bnd_r hX4]
      rintro μ52 e52
      have R52 : rdC lg tb L e μ52 q4 δ := by rw [e52]; exact R46.up (by omega) (R46.2.2.2.2.1.i6 (by omega) (Nat.le_refl _))
      have F52 : lnF e μ μ52 := by rw [e52]; exact (F41.tr F46.l).pe (by omega)
      have w52 : μ52.1 518 e δ.2.1.1 = w := by rw [e52, gsI_off (by omega), F46.1 518 e (by omega)]; exact w41
      have g52 : μ52.1 519 e δ.2.1.1 = g := by rw [e52, gsI_off (by omega), F46.1 519 e (by omega)]; exact g41
      have b52 : μ52.1 520 e δ.2.1.1 = b := by rw [e52, gsI_off (by omega), F46.1 520 e (by omega)]; exact b41
      have u52 : μ52.1 521 e δ.2.1.1 = u := by rw [e52, gsI_s]
      refine ⟨by have := R52.1; omega, ?_⟩
      rw [R52.1, R52.2.2.2.2.1.2.1.1, nI_1]
      rintro μ54 e54
      have R54 := R52.up (k := 7) (j := 5) (v := nI (δ.2.1.1 + 1)) (by omega) (R52.2.2.2.2.1.deed w52 g52 b52 u52)
      rw [← e54] at R54
      exact ⟨by rw [e54]; exact F52.pe (by omega), rfl, R54.2.2.1, R54.2.2.2.1, R54.2.2.2.2⟩
  · rw [if_pos (by omega)]
    rintro v μ1 ⟨ev, F, a, b⟩
    rw [ev]
    exact ⟨Or.inl rfl, F.l, rfl, a, b⟩
theorem once_step {j : Nat} {F : rsL dfT} {CONT : gMem → Prop} (hd : 4 ≤ d) (hj : j < 4) (hk : tkK lg tb L p = nI (3 + j)) (h : rdC lg tb L e μ p δ) (hc : ∀ ν, δ.2.2.2.2.2 (3 + j) = false → rdC lg tb L e ν (nxP lg tb L p) (δ.1, δ.2.1, δ.2.2.1, δ.2.2.2.1, δ.2.2.2.2.1, upB δ.2.2.2.2.2 (3 + j) true) → lnF e μ ν → CONT ν) : ∃ (d' : Nat) (q' : Int32 → gMem → Prop), d' < d ∧ Ctr l D d' yX5_readOnce cX5_readOnce 2 (some .boolean) [.ref (D.2.2 5 0)] μ (pI q') ∧ ∀ (v : Int32) (ν : gMem), q' v ν → ((v = 0) → lnQ lg tb L e μ (if δ.2.2.2.2.2 (3 + j) = true then .inl (3, p) else F) 0 ν) ∧ ((¬ v = 0) → CONT ν) := by
  refine ⟨3, _, by omega, c_X5_readOnce (j := j) (sd := fun z => δ.2.2.2.2.2 (3 + z)) (by omega) hj hk (h.2.2.2.2.1.2.2.2.2.2 j hj) h.2.1 h.2.2.1 h.2.2.2.1, ?_⟩
  rintro v ν ⟨⟨μ9, h9, F9⟩, q1⟩
  have q1 : rsC lg tb L (if δ.2.2.2.2.2 (3 + j) = true then .inl (3, p) else (.inr ((), nxP lg tb L p) : rsL Unit)) (fun _ μ' => μ'.1 386 0 j = 1 ∧ μ'.1 5 = μ.1 5) v ν := q1
  have F8 : lnF e μ μ9 := by
    rcases h9 with h9 | h9
    · rw [h9]; exact lnF.rf
    · rw [h9]; exact lnF.rf.p386
  have Fν : lnF e μ ν := F8.tr F9.l
  by_cases hs : δ.2.2.2.2.2 (3 + j) = true
  · rw [if_pos hs] at q1
    obtain ⟨a1, a2, a3⟩ := q1
    refine ⟨fun _ => ?_, fun z => absurd a1 z⟩
    rw [if_pos hs]
    exact ⟨Fν, rfl, a2, a3⟩
  · rw [if_neg hs] at q1
    obtain ⟨a1, a2, a3, a4, a5⟩ := q1
    refine ⟨fun z => absurd (a1.symm.trans z) (by decide), fun _ => hc ν (by cases hb : δ.2.2.2.2.2 (3 + j); rfl; exact absurd hb hs) ⟨by rw [Fν.2.2]; exact h.1, h.2.1.l Fν, a2, a3, ?_, h.2.2.2.2.2.of (fun j _ => by rw [a5])⟩ Fν⟩
    have D0 := (h.2.2.2.2.1.sd (j := j)).of (μ' := ν) (fun k hk2 => ?_) ?_
    · exact D0
    · rw [F9.1 k e (by omega)]
      rcases h9 with h9 | h9
      · rw [h9, gsI_off (by omega)]
      · rw [h9]
    · funext z
      rw [gsI_at]
      by_cases ez : z = j
      · rw [if_pos ⟨rfl, rfl, ez⟩, ez]; exact a4
      · rw [if_neg (by omega), F9.1 386 0 (by omega)]
        rcases h9 with h9 | h9
        · rw [h9]
        · rw [h9, gsI_at, if_neg (by omega)]
theorem c_X5_readBet (hd : 5 ≤ d) (he : e < 2) (h : rdC lg tb L e μ p δ) (hk : tkK lg tb L p = 3) : Ctr l D d yX5_readBet cX5_readBet 1 (some .boolean) [.ref (D.2.2 5 0)] μ (pI (lnQ lg tb L e μ (ln2 lg tb L 3 3 0 999 1 14 δ p))) := by
  refine en_X5_readBet (fun Γ => bl_X5_readBet_0 (by decide) ?_)
  unfold ln2
  refine once_step (j := 0) (by omega) (by omega) hk h ?_
  rintro μ5 hs R5 F5
  rw [if_neg (by rw [hs]; decide)]
  refine num_step (by omega) (by decide) (by decide) R5 F5 ?_
  rintro x q2 μ13 hX2 R13 F13 e13
  refine ⟨by have := R13.1; omega, ?_⟩
  rw [R13.1, e13, bnd_r hX2]
  rintro μ18 e18
  have R18 := R13.up (k := 7) (j := 12) (v := x) (by omega) (R13.2.2.2.2.1.num (i := 3) (by omega) rfl)
  rw [← e18] at R18
  have F18 : lnF e μ μ18 := by rw [e18]; exact (F5.tr F13.l).pe (by omega)
  refine num_step (by omega) (by decide) (by decide) R18 F18 ?_
  rintro y q3 μ23 hX3 R23 F23 e23
  refine ⟨by have := R23.1; omega, ?_⟩
  rw [R23.1, e23, bnd_r hX3]
  rintro μ28 e28
  have R28 := R23.up (k := 7) (j := 13) (v := y) (by omega) (R23.2.2.2.2.1.num (i := 4) (by omega) rfl)
  rw [← e28] at R28
  exact ⟨by rw [e28]; exact (F18.tr F23.l).pe (by omega), rfl, R28.2.2.1, R28.2.2.2.1, R28.2.2.2.2⟩
theorem c_X5_readPay (hd : 5 ≤ d) (he : e < 2) (h : rdC lg tb L e μ p δ) (hk : tkK lg tb L p = 4) : Ctr l D d yX5_readPay cX5_readPay 1 (some .boolean) [.ref (D.2.2 5 0)] μ (pI (lnQ lg tb L e μ (ln2 lg tb L 4 5 0 99 0 999 δ p))) := by
  refine en_X5_readPay (fun Γ => bl_X5_readPay_0 (by decide) ?_)
  unfold ln2
  refine once_step (j := 1) (by omega) (by omega) hk h ?_
  rintro μ5 hs R5 F5
  rw [if_neg (by rw [hs]; decide)]
  refine num_step (by omega) (by decide) (by decide) R5 F5 ?_
  rintro x q2 μ13 hX2 R13 F13 e13
  refine ⟨by have := R13.1; omega, ?_⟩
  rw [R13.1, e13, bnd_r hX2]
  rintro μ18 e18
  have R18 := R13.up (k := 7) (j := 14) (v := x) (by omega) (R13.2.2.2.2.1.num (i := 5) (by omega) rfl)
  rw [← e18] at R18
  have F18 : lnF e μ μ18 := by rw [e18]; exact (F5.tr F13.l).pe (by omega)
  refine num_step (by omega) (by decide) (by decide) R18 F18 ?_
  rintro y q3 μ23 hX3 R23 F23 e23
  refine ⟨by have := R23.1; omega, ?_⟩
  rw [R23.1, e23, bnd_r hX3]
  rintro μ28 e28
  have R28 := R23.up (k := 7) (j := 15) (v := y) (by omega) (R23.2.2.2.2.1.num (i := 6) (by omega) rfl)
  rw [← e28] at R28
  exact ⟨by rw [e28]; exact (F18.tr F23.l).pe (by omega), rfl, R28.2.2.1, R28.2.2.2.1, R28.2.2.2.2⟩
theorem c_X5_readRain (hd : 5 ≤ d) (he : e < 2) (h : rdC lg tb L e μ p δ) (hk : tkK lg tb L p = 5) : Ctr l D d yX5_readRain cX5_readRain 1 (some .boolean) [.ref (D.2.2 5 0)] μ (pI (lnQ lg tb L e μ (ln1 lg tb L 5 7 0 100 δ p))) := by
  refine en_X5_readRain (fun Γ => bl_X5_readRain_0 (by decide) ?_)
  unfold ln1
  refine once_step (j := 2) (by omega) (by omega) hk h ?_
  rintro μ5 hs R5 F5
  rw [if_neg (by rw [hs]; decide)]
  refine num_step (by omega) (by decide) (by decide) R5 F5 ?_
  rintro x q2 μ13 hX2 R13 F13 e13
  refine ⟨by have := R13.1; omega, ?_⟩
  rw [R13.1, e13, bnd_r hX2]
  rintro μ18 e18
  have R18 := R13.up (k := 7) (j := 16) (v := x) (by omega) (R13.2.2.2.2.1.num (i := 7) (by omega) rfl)
  rw [← e18] at R18
  exact ⟨by rw [e18]; exact (F5.tr F13.l).pe (by omega), rfl, R18.2.2.1, R18.2.2.2.1, R18.2.2.2.2⟩
theorem c_X5_readSeed (hd : 5 ≤ d) (he : e < 2) (h : rdC lg tb L e μ p δ) (hk : tkK lg tb L p = 6) : Ctr l D d yX5_readSeed cX5_readSeed 1 (some .boolean) [.ref (D.2.2 5 0)] μ (pI (lnQ lg tb L e μ (ln1 lg tb L 6 8 0 99999 δ p))) := by
  refine en_X5_readSeed (fun Γ => bl_X5_readSeed_0 (by decide) ?_)
  unfold ln1
  refine once_step (j := 3) (by omega) (by omega) hk h ?_
  rintro μ5 hs R5 F5
  rw [if_neg (by rw [hs]; decide)]
  refine num_step (by omega) (by decide) (by decide) R5 F5 ?_
  rintro x q2 μ13 hX2 R13 F13 e13
  refine ⟨by have := R13.1; omega, ?_⟩
  rw [R13.1, e13, bnd_r hX2]
  rintro μ18 e18
  have R18 := R13.up (k := 7) (j := 17) (v := x) (by omega) (R13.2.2.2.2.1.num (i := 8) (by omega) rfl)
  rw [← e18] at R18
  exact ⟨by rw [e18]; exact (F5.tr F13.l).pe (by omega), rfl, R18.2.2.1, R18.2.2.2.1, R18.2.2.2.2⟩
end CL
