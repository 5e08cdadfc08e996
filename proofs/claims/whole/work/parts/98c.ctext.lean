/-! the class's text -/
section CX
variable {l : Launch} {D : gD} {d : Nat} {μ μ1 μ2 μ3 : gMem} {t : Nat} {σ : sV} {x1 : Int32} {e : Nat} {δ : dfT}
theorem tdC_df (h : dfC μ e δ) (hB : dfB δ) (hR : dfR δ) : tdC μ e (xtdF δ (fun p => (μ.1 514 e p, μ.1 515 e p))) := by
  obtain ⟨⟨a0, a1⟩, ⟨c0, c1⟩, ⟨f0, f1⟩, g, ⟨⟨i1, i2, i3, i4⟩, i5, i6⟩, -⟩ := h
  obtain ⟨b1, b2, b3, b4, b5⟩ := hB
  have r4 := hR.2.2.2.1
  refine ⟨⟨a0, c0, b2, ⟨fun r hr => ⟨(i6 r hr).1, (i6 r hr).2, fun i h1 h2 => i2 i ?_⟩, i3, fun z r hr i h1 h2 => i4 z i ?_⟩, ?_, ⟨g 5 (by omega) (by omega), g 6 (by omega) (by omega), g 3 (by omega) (by omega)⟩, fun p hp => (a1 p hp).2.2.2⟩, ⟨fun z hz => ⟨(c1 z hz).2.1, (c1 z hz).2.2.1⟩, f1, fun p hp => ?_⟩, fun z hz => ⟨(c1 z hz).2.2.2, (c1 z hz).1⟩, fun p hp => (a1 p hp).1, f0, g 7 (by omega) (by omega), g 8 (by omega) (by omega), i5⟩
  · have h2 : i < δ.2.2.2.2.1.2.2.2 r := h2
    have := (b5 r hr).2
    omega
  · have h2 : i < δ.2.2.2.2.1.2.2.2 r := h2
    have := (b5 r hr).2
    omega
  · show μ.1 7 e 13 = nI (ix (δ.2.2.2.1 4))
    rw [← ix_nI (x := δ.2.2.2.1 4) (by have := r4.1; omega)]
    exact g 4 (by omega) (by omega)
  · show μ.1 514 e p = (if p < δ.1.1 then δ.1.2.2.1 p else μ.1 514 e p) ∧ μ.1 515 e p = (if p < δ.1.1 then δ.1.2.2.2.1 p else μ.1 515 e p)
    by_cases hm : p < δ.1.1
    · rw [if_pos hm, if_pos hm]
      exact ⟨(a1 p hm).2.1, (a1 p hm).2.2.1⟩
    · rw [if_neg hm, if_neg hm]
      exact ⟨rfl, rfl⟩
theorem cSt_rt {π : Nat × (Nat → Int32) × Int32 × Int32} (h : cSt μ t σ) (hF : rtF (1 - t) μ μ2) (e3 : μ3 = gsI μ2 6 0 2 0) (hT : tpC μ3 π) : cSt μ3 t (setP σ π) ∧ mKp μ μ3 := by
  obtain ⟨a1, a2, aj, a3, a4, a5, a6, a7, a8⟩ := h
  have ht := a1.2.1
  have g : ∀ k j, ¬ (j = 0 ∧ (k = 1 ∨ k = 128 ∨ k = 130 ∨ k = 5 ∨ k = 6 ∨ k = 386)) → ¬ (j = 1 - t ∧ (k = 2 ∨ k = 7 ∨ (192 ≤ k ∧ k ≤ 195) ∨ (513 ≤ k ∧ k ≤ 523))) → μ3.1 k j = μ.1 k j := fun k j x y => by rw [e3, gsI_off (by omega), hF.1 k j x y]
  have m21 : μ3.2.1 = μ.2.1 := by rw [e3]; exact hF.2.2.1
  have m0 : μ3.2.2 0 = μ.2.2 0 := by rw [e3]; exact hF.2.2.2.1
  have m1 : μ3.2.2 1 = μ.2.2 1 := by rw [e3]; exact hF.2.2.2.2
  have hw : ∀ w V, hC μ w V → hC μ3 w V := fun w V hh => hh.of (fun k _ => g 4 _ (by omega) (by omega)) (fun k _ => g 331 _ (by omega) (by omega)) ⟨by rw [g 8 w (by omega) (by omega)], by rw [g 8 w (by omega) (by omega)]⟩ (by rw [m21])
  exact ⟨⟨by rw [m0, m1]; exact a1, by rw [g 8 0 (by omega) (by omega)]; exact a2, aj.of (fun i => g 4 i (by omega) (by omega)) (fun i => g 331 i (by omega) (by omega)), a3.of (fun k hk => g k t (by omega) (by omega)), hw 0 _ a4, a5.of (fun k hk => g k 0 (by omega) (by omega)), a6.of (by rw [g 9 0 (by omega) (by omega)]) (hw 1), a7.of (by rw [g 0 0 (by omega) (by omega)]) (fun k hk => g k 0 (by omega) (by omega)), hT⟩, fun k j hk => g k j (by omega) (by omega)⟩
theorem c_X9_text (hd : 11 ≤ d) (h : cSt μ t σ) (hO : sOkS σ) : Ctr l D d yX9_text cX9_text 4 (some .int) [.ref (D.2.2 9 0), .int x1] μ (pI (fun v μ' => v = txV σ x1 ∧ mKp μ μ' ∧ ∃ t' Gf, cSt μ' t' (txS σ x1 Gf))) := by
  have hT := h.2.2.2.2.2.2.2.2
  have h7 := hO.2.2.2.2.2.1
  have hb := hO.2.2.2.2.2.2
  have h1 := h.1
  have hx0 : x1 < 0 ↔ ¬ 0 ≤ x1.toInt := by
    rw [Int32.lt_iff_toInt_lt, show (0 : Int32).toInt = 0 from rfl]
    omega
  have non : ¬ txP σ x1 → (-2 : Int32) = txV σ x1 ∧ mKp μ μ ∧ ∃ t' Gf, cSt μ t' (txS σ x1 Gf) := by
    intro z
    refine ⟨by rw [txV, if_neg z], mKp.rf, t, fun _ => (0, 0), ?_⟩
    rw [txS, if_neg z]
    exact h
  refine en_X9_text (fun Γ => bl_X9_text_0 (by decide) ?_)
  rw [hx0]
  refine ⟨fun z => non (fun w => z w.1), fun z => ?_⟩
  have z := Decidable.not_not.mp z
  have en := ix_nI z
  have hx31 : ix x1 < 2 ^ 31 := by
    have := fb_rng x1
    unfold ix
    omega
  have hle : x1 ≤ μ.1 6 0 2 ↔ ix x1 ≤ σ.2.2.2.2.2.1 := by
    rw [hT.1, show (x1 ≤ nI σ.2.2.2.2.2.1) = (nI (ix x1) ≤ nI σ.2.2.2.2.2.1) by rw [← en], nI_leI hx31 (by omega)]
  rw [hle]
  refine ⟨fun zl => ?_, fun zl => non (fun w => zl w.2)⟩
  have hP : txP σ x1 := ⟨z, zl⟩
  rw [h1.2.2]
  refine ⟨by omega, 10, _, by omega, c_X5_readText (n := ix x1) (lg := lgW) (tb := xtpB σ) en (by omega) (by omega) (by omega) (fun k hk => ?_) hT.2.2.2.2, ?_⟩
  · have hk2 : k < σ.2.2.2.2.2.1 := by omega
    have hr := hb k hk2
    have e1 := ix_nI (x := σ.2.2.2.2.2.2.1 k) hr.1
    refine ⟨?_, ?_⟩
    · show _ = (nI (ix (σ.2.2.2.2.2.2.1 k))).toInt8.toInt32
      rw [← e1]
      exact hT.2.1 k hk2
    · show ix (σ.2.2.2.2.2.2.1 k) < 256
      have := hr.2
      unfold ix
      omega
  rintro v9 μ8 ⟨F8, k8⟩ xr exr μ12 e12
  rw [exr, txV, if_pos hP]
  have hS : ∀ Gf, txS σ x1 Gf = txO σ Gf (txR lgW (xtpB σ) (ix x1)) := fun Gf => by rw [txS, if_pos hP]
  have o12 : ∀ k j, ¬ (k = 6 ∧ j = 0) → μ12.1 k j = μ8.1 k j := fun k j hk => by rw [e12, gsI_off (by omega)]
  have s12 : μ12.1 6 0 2 = nI 0 := by rw [e12, gsI_s]; rfl
  have l12 : ∀ z, z < 21 → μ12.1 449 0 z = lgW z := by
    rw [o12 449 0 (by omega), F8.1 449 0 (by omega) (by omega)]
    exact hT.2.2.2.2
  obtain ⟨XR, hX⟩ : ∃ XR, txR lgW (xtpB σ) (ix x1) = XR := ⟨_, rfl⟩
  rw [hX] at k8 hS
  rw [hX]
  rcases XR with ⟨kf1, qf⟩ | ⟨dl, nl⟩
  · obtain ⟨u1, u2, u3⟩ := k8
    rw [u1]
    refine ⟨fun w => absurd rfl w, fun _ => ?_⟩
    obtain ⟨w1, w2⟩ := cSt_rt (π := (0, σ.2.2.2.2.2.2.1, kf1, nI qf)) h F8 e12 ⟨s12, fun k hk => absurd hk (Nat.not_lt_zero _), by rw [o12 5 0 (by omega)]; exact u2, by rw [o12 5 0 (by omega)]; exact u3, l12⟩
    refine ⟨rfl, w2, t, fun _ => (0, 0), ?_⟩
    rw [hS]
    exact w1
  obtain ⟨u1, u2, u3, ub, ur⟩ := k8
  have hnl := txL_le _ _ _ _ hX
  rw [u1]
  have hm1 : ¬ nI nl = -1 := nI_nm1 (by omega)
  refine ⟨fun _ => ?_, fun w => absurd w hm1⟩
  have ht2 := h1.2.1
  have rr0 : μ12.2.2 0 = t := by rw [e12]; exact F8.2.2.2.1.trans h1.1
  have rr1 : μ12.2.2 1 = 1 - t := by rw [e12]; exact F8.2.2.2.2.trans h1.2.2
  refine ⟨by omega, by omega, ?_⟩
  rw [rr0, rr1]
  rintro μ16 e16 μ17 e17
  have rs0 : μ17.2.2 0 = 1 - t := by rw [e17, e16]; rfl
  have rs1 : μ17.2.2 1 = t := by rw [e17]; rfl
  have i17 : μ17.1 = μ12.1 := by rw [e17, e16]; rfl
  refine ⟨by omega, ?_⟩
  rw [rs0]
  have j17 : jk μ17 := h.2.2.1.of (fun i => by rw [i17, o12 4 i (by omega), F8.1 4 i (by omega) (by omega)]) (fun i => by rw [i17, o12 331 i (by omega), F8.1 331 i (by omega) (by omega)])
  refine ⟨2, _, by omega, c_X8_start (w := 0) (t := 1 - t) (by omega) (by omega) (by omega) j17, ?_⟩
  rintro μ23 ⟨wb1, wb2, ⟨wb3, wb4, wb5⟩, ⟨wb6, wb7, wb8, wb9⟩, wb10⟩ μ26 e26
  refine ⟨0, fun μ' => ∃ ν, ν = gsI μ26 3 0 6 0 ∧ μ' = gsI ν 3 0 7 (-1), by omega, en_X3_clear (fun Γ => bl_X3_clear_0 (by decide) (fun μa ea μb eb => ⟨μa, ea, eb⟩)), ?_⟩
  rintro μ31 ⟨μ30, e30, e31⟩ μ34 e34
  have o34 : ∀ k j, ¬ (k = 9 ∧ j = 0) → ¬ (k = 3 ∧ j = 0) → ¬ (k = 0 ∧ j = 0) → μ34.1 k j = μ23.1 k j := fun k j ha hb hc => by rw [e34, gsI_off (by omega), e31, gsI_off (by omega), e30, gsI_off (by omega), e26, gsI_off (by omega)]
  have m34 : μ34.2 = μ23.2 := by rw [e34, e31, e30, e26]; rfl
  have s9 : μ34.1 9 0 11 = 0 := by rw [e34, gsI_off (by omega), e31, gsI_off (by omega), e30, gsI_off (by omega), e26, gsI_s]
  have s36 : μ34.1 3 0 6 = 0 := by rw [e34, gsI_off (by omega), e31, gsI_at, if_neg (by omega), e30, gsI_s]
  have s37 : μ34.1 3 0 7 = -1 := by rw [e34, gsI_off (by omega), e31, gsI_s]
  have s04 : μ34.1 0 0 4 = 0 := by rw [e34, gsI_s]
  clear e34 e31 e30 e26
  have o23 : ∀ k j, ¬ ((k = 4 ∨ k = 331) ∧ j < 5) → ¬ (k = 8 ∧ j = 0) → μ23.1 k j = μ12.1 k j := fun k j ha hb => by rw [wb1.1 k j (by omega) (by omega), i17]
  have ofar : ∀ k j, ¬ (k = 0 ∨ k = 3 ∨ k = 4 ∨ k = 331 ∨ k = 8 ∨ k = 9 ∨ k = 6) → μ34.1 k j = μ8.1 k j := fun k j hk => by rw [o34 k j (by omega) (by omega) (by omega), o23 k j (by omega) (by omega), o12 k j (by omega)]
  have td := tdC_df u2 ub ur
  refine ⟨rfl, fun k j hk => by rw [ofar k j (by omega), F8.1 k j (by omega) (by omega)], 1 - t, fun p => (μ8.1 514 (1 - t) p, μ8.1 515 (1 - t) p), ?_⟩
  rw [hS]
  refine ⟨⟨by rw [m34, wb1.2.1]; exact rs0, by omega, by rw [m34, wb1.2.1, rs1]; omega⟩, ⟨by rw [o34 8 0 (by omega) (by omega) (by omega)]; exact wb7, by rw [o34 8 0 (by omega) (by omega) (by omega)]; exact wb8, by rw [o34 8 0 (by omega) (by omega) (by omega)]; exact wb9⟩, wb10.of (fun i => o34 4 i (by omega) (by omega) (by omega)) (fun i => o34 331 i (by omega) (by omega) (by omega)), td.of (fun k hk => ofar k (1 - t) (by omega)), ⟨fun k hk => ?_, fun k hk => ?_, ?_, ?_, ?_⟩, ⟨s36, s37, fun k hk => absurd hk (Nat.not_lt_zero _)⟩, s9, ⟨s04, fun k hk => absurd hk (Nat.not_lt_zero _)⟩, ⟨?_, fun k hk => absurd hk (Nat.not_lt_zero _), ?_, ?_, ?_⟩⟩
  · have tv := td.2.1.2.2 k hk
    rw [o34 4 _ (by omega) (by omega) (by omega), (wb2 k hk).1, i17, o12 514 (1 - t) (by omega), o12 515 (1 - t) (by omega), tv.1, tv.2]
    rfl
  · rw [o34 331 _ (by omega) (by omega) (by omega), (wb2 k hk).2]
    funext j
    show (if j < 6 then μ17.1 523 (1 - t) (6 * k + j) else 0) = if j < 6 then dl.2.2.1.2 (6 * k + j) else 0
    by_cases hj : j < 6
    · rw [if_pos hj, if_pos hj, i17, o12 523 (1 - t) (by omega)]
      exact td.2.1.2.1 (6 * k + j) (by omega)
    · rw [if_neg hj, if_neg hj]
  · rw [o34 8 0 (by omega) (by omega) (by omega)]
    exact wb3
  · rw [o34 8 0 (by omega) (by omega) (by omega)]
    exact wb4
  · rw [m34, wb5, i17, o12 7 (1 - t) (by omega), show μ8.1 7 (1 - t) 17 = dl.2.2.2.1 8 from u2.2.2.2.1 8 (by omega) (by omega)]
    rfl
  · rw [o34 6 0 (by omega) (by omega) (by omega), o23 6 0 (by omega) (by omega)]
    exact s12
  · rw [ofar 5 0 (by omega)]
    exact u3.1
  · rw [ofar 5 0 (by omega)]
    exact u3.2
  · rw [o34 449 0 (by omega) (by omega) (by omega), o23 449 0 (by omega) (by omega)]
    exact l12
end CX
