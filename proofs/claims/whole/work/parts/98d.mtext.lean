/-! the reference's text: lines, halves -/
def tmH (R : rsL dfT) (ν : gMem) : Prop := match R with | .inl (k, q) => flM ν k q | .inr (δ', n) => ν.1 10 0 24 = 0 ∧ dfM ν δ' ∧ okD δ' ∧ ν.1 10 0 18 = nI n
/-- halves of the kinds from 707 to n are taken over -/
def hvF (n : Nat) (μ μ' : gMem) : Prop := (∀ k j, ¬ (j = 0 ∧ 707 ≤ k ∧ k < n) → μ'.1 k j = μ.1 k j) ∧ (∀ k, 707 ≤ k → k < n → ∀ z, μ'.1 k 0 z = if z < hf k then μ.1 k 0 (hf k + z) else μ.1 k 0 z) ∧ μ'.2 = μ.2
section MX
variable {l : Launch} {D : gD} {d : Nat} {μ μ0 μ1 μ2 : gMem} {lg : Nat → Int32} {tb : Nat → Nat} {L : Nat} {Γ : gC}
theorem text_5 {q : Int32 → gMem → Prop} {R : rsL dfT} (hd : 654 ≤ d) (hWd : WordC l D lg) (hq : ∀ ν, lmF μ0 ν → tmH R ν → pt_X10_text_6 l D d q Γ 0 ν) : ∀ (m p n : Nat) (δ : dfT) (μ : gMem), L ≤ p + m → lmF μ0 μ → rlM lg tb L μ p → dfM μ δ → okD δ → μ.1 10 0 18 = nI n → txL lg tb L m δ p n = R → pt_X10_text_5 l D d q Γ 0 μ := by
  intro m
  induction m with
  | zero =>
    intro p n δ μ hL hF h hM hO h18 eR
    have e36 : tkK lg tb L p = 36 := tkK_end (by omega)
    refine bl_X10_text_5 (by decide) ⟨fun z => absurd h.2.1 z, fun _ => ⟨fun _ => hq μ hF ?_, fun z => absurd ((isN2 h.2.2.2).2.2.mpr e36) z⟩⟩
    rw [← eR]
    exact ⟨h.2.1, hM, hO, h18⟩
  | succ m ih =>
    intro p n δ μ hL hF h hM hO h18 eR
    rw [txL] at eR
    refine bl_X10_text_5 (by decide) ⟨fun z => absurd h.2.1 z, fun _ => ?_⟩
    rw [(isN2 h.2.2.2).2.2]
    refine ⟨fun z => hq μ hF ?_, fun z => ⟨653, _, by omega, c_X10_line (by omega) hWd hO h hM h18, ?_⟩⟩
    · rw [if_pos z] at eR
      rw [← eR]
      exact ⟨h.2.1, hM, hO, h18⟩
    rw [if_neg z] at eR
    rintro μ7 ⟨F7, H7⟩
    obtain ⟨X, hX⟩ : ∃ X, lneR lg tb L δ p = X := ⟨_, rfl⟩
    rw [hX] at eR H7
    rcases X with ⟨kk, qq⟩ | ⟨δ1, qq⟩
    · have f7 : flM μ7 kk qq := H7
      have eR : (.inl (kk, qq) : rsL dfT) = R := eR
      refine bl_X10_text_5 (by decide) ⟨fun _ => hq μ7 (hF.tr F7) ?_, fun w => absurd w f7.nz⟩
      rw [← eR]
      exact f7
    · obtain ⟨h1, h2, h3, h4, h5⟩ := H7
      exact ih qq (n + 1) δ1 μ7 (by omega) (hF.tr F7) h1 h2 h4 h5 eR
theorem half_1 {q : gMem → Prop} {k0 h : Nat} (hk0 : gsh k0 = (1, (gsh k0).2.1, 0)) (hi0 : 0 < gkn k0) (hL : (gsh k0).2.1 = 2 * h) (h2 : h < 100) (hq : ∀ μ', (∀ k j, ¬ (k = k0 ∧ j = 0) → μ'.1 k j = μ0.1 k j) → (∀ z, μ'.1 k0 0 z = if z < h then μ0.1 k0 0 (h + z) else μ0.1 k0 0 z) → μ'.2 = μ0.2 → q μ') : ∀ (c j : Nat) (μ : gMem), j + c = h → (∀ k j, ¬ (k = k0 ∧ j = 0) → μ.1 k j = μ0.1 k j) → (∀ z, μ.1 k0 0 z = if z < j then μ0.1 k0 0 (h + z) else μ0.1 k0 0 z) → μ.2 = μ0.2 → pt_X10_half_1 l D d q Γ k0 0 (nI h) (nI j) μ := by
  intro c
  induction c with
  | zero =>
    intro j μ hj hF hz hm
    obtain rfl : j = h := by omega
    exact bl_X10_half_1 hk0 hi0 ⟨fun _ => hq μ hF hz hm, fun w => absurd (nI_le (Nat.le_refl _) (by omega)) w⟩
  | succ c ih =>
    intro j μ hj hF hz hm
    refine bl_X10_half_1 hk0 hi0 ⟨fun w => absurd ((nI_leI (by omega) (by omega)).mp w) (by omega), fun _ => ⟨h + j, by omega, by omega, nI_add h j, j, by omega, by omega, rfl, ?_⟩⟩
    rintro μ5 e5 _ rfl
    rw [nI_1]
    refine ih (j + 1) μ5 (by omega) (fun k i hk => by rw [e5, gsI_off hk]; exact hF k i hk) (fun z => ?_) (by rw [e5]; exact hm)
    have hhj : μ.1 k0 0 (h + j) = μ0.1 k0 0 (h + j) := by rw [hz (h + j), if_neg (by omega)]
    rw [e5, gsI_at, hhj]
    by_cases ez : z = j
    · rw [if_pos ⟨rfl, rfl, ez⟩, if_pos (by omega), ez]
    · rw [if_neg (fun w => ez w.2.2), hz z]
      by_cases e2 : z < j
      · rw [if_pos e2, if_pos (by omega)]
      · rw [if_neg e2, if_neg (by omega)]
theorem c_X10_half {k0 h : Nat} (hk0 : gsh k0 = (1, (gsh k0).2.1, 0)) (hi0 : 0 < gkn k0) (hL : (gsh k0).2.1 = 2 * h) (h2 : h < 100) : Ctr l D d yX10_half cX10_half 3 none [.ref (D.2.2 k0 0)] μ (pV (fun μ' => (∀ k j, ¬ (k = k0 ∧ j = 0) → μ'.1 k j = μ.1 k j) ∧ (∀ z, μ'.1 k0 0 z = if z < h then μ.1 k0 0 (h + z) else μ.1 k0 0 z) ∧ μ'.2 = μ.2)) := by
  refine en_X10_half (fun Γ => bl_X10_half_0 hk0 hi0 ?_)
  rw [hL, show (2 : Int32) = nI 2 from rfl, pk_div (by omega) (by omega) (by omega), show 2 * h / 2 = h by omega]
  rintro _ rfl _ rfl
  exact half_1 (μ0 := μ) hk0 hi0 hL h2 (fun μ' ha hb hc => ⟨ha, hb, hc⟩) h 0 μ (by omega) (fun _ _ _ => rfl) (fun z => by rw [if_neg (by omega)]) rfl
theorem hvF.st {n : Nat} (h : hvF n μ μ1) (hn : 707 ≤ n) (hs : (∀ k j, ¬ (k = n ∧ j = 0) → μ2.1 k j = μ1.1 k j) ∧ (∀ z, μ2.1 n 0 z = if z < hf n then μ1.1 n 0 (hf n + z) else μ1.1 n 0 z) ∧ μ2.2 = μ1.2) : hvF (n + 1) μ μ2 := by
  obtain ⟨ha, hb, hc⟩ := h
  obtain ⟨sa, sb2, sc⟩ := hs
  refine ⟨fun k j hk => by rw [sa k j (by omega), ha k j (by omega)], fun k k1 k2 z => ?_, sc.trans hc⟩
  by_cases ek : k = n
  · subst ek
    rw [sb2 z, ha k 0 (by omega)]
  · rw [sa k 0 (by omega)]
    exact hb k k1 (by omega) z
theorem hvF.rf : hvF 707 μ μ := ⟨fun _ _ _ => rfl, fun k k1 k2 => by omega, rfl⟩
/-- what is told of the second halves, taken over -/
theorem tdM_df {δ : dfT} {Gf : Nat → Int32 × Int32} (h : dfM μ δ) (hO : okD δ) (hv : ∀ k, 707 ≤ k → k ≤ 720 → ∀ z, z < hf k → μ1.1 k 0 z = μ.1 k 0 (hf k + z)) : tdM μ1 (xtdF δ Gf) := by
  obtain ⟨⟨a0, a1⟩, ⟨c0, c1⟩, ⟨f0, f1⟩, g, ⟨i1, i2, i3, i4, i5⟩, -⟩ := h
  obtain ⟨⟨b1, b2, b3, b4, b5⟩, hR, -⟩ := hO
  have r4 := hR.2.2.2.1
  have v7 : ∀ z, z < 10 → μ1.1 707 0 z = μ.1 707 0 (10 + z) := fun z hz => hv 707 (by omega) (by omega) z hz
  have v5 : ∀ k, 708 ≤ k → k ≤ 711 → ∀ z, z < 5 → μ1.1 k 0 z = μ.1 k 0 (5 + z) := fun k k1 k2 z hz => by
    have hk : hf k = 5 := by unfold hf; rw [if_neg (by omega), if_pos k2]
    have := hv k (by omega) (by omega) z (by omega)
    rwa [hk] at this
  have v6 : ∀ k, 712 ≤ k → k ≤ 715 → ∀ z, z < 6 → μ1.1 k 0 z = μ.1 k 0 (6 + z) := fun k k1 k2 z hz => by
    have hk : hf k = 6 := by unfold hf; rw [if_neg (by omega), if_neg (by omega), if_pos k2]
    have := hv k (by omega) (by omega) z (by omega)
    rwa [hk] at this
  have v16 : ∀ z, z < 30 → μ1.1 716 0 z = μ.1 716 0 (30 + z) := fun z hz => hv 716 (by omega) (by omega) z hz
  have v17 : ∀ z, z < 3 → μ1.1 717 0 z = μ.1 717 0 (3 + z) ∧ μ1.1 718 0 z = μ.1 718 0 (3 + z) := fun z hz => ⟨hv 717 (by omega) (by omega) z hz, hv 718 (by omega) (by omega) z hz⟩
  have v19 : ∀ z, z < 64 → μ1.1 719 0 z = μ.1 719 0 (64 + z) ∧ μ1.1 720 0 z = μ.1 720 0 (64 + z) := fun z hz => ⟨hv 719 (by omega) (by omega) z hz, hv 720 (by omega) (by omega) z hz⟩
  refine ⟨⟨(v7 0 (by omega)).trans a0, (v7 1 (by omega)).trans c0, b2, fun r hr => ⟨(v17 r hr).1.trans (i3 r hr).1, (v17 r hr).2.trans (i3 r hr).2, fun i h1 h2 => ?_⟩, ?_, ⟨(v7 5 (by omega)).trans (g 5 (by omega) (by omega)), (v7 6 (by omega)).trans (g 6 (by omega) (by omega)), (v7 3 (by omega)).trans (g 3 (by omega) (by omega))⟩, fun p hp => ?_⟩, ⟨fun z hz => ?_, fun k hk => (v16 k hk).trans (f1 k hk), fun p hp => ?_⟩, fun z hz => ?_, fun p hp => ?_, (v7 2 (by omega)).trans f0, (v7 7 (by omega)).trans (g 7 (by omega) (by omega)), (v7 8 (by omega)).trans (g 8 (by omega) (by omega)), (v7 9 (by omega)).trans i1⟩
  · have h2 : i < δ.2.2.2.2.1.2.2.2 r := h2
    have := (b5 r hr).2
    rw [(v19 i (by omega)).1, (v19 i (by omega)).2]
    exact i2 i (by omega)
  · show μ1.1 707 0 4 = nI (ix (δ.2.2.2.1 4))
    rw [← ix_nI (x := δ.2.2.2.1 4) (by have := r4.1; omega)]
    exact (v7 4 (by omega)).trans (g 4 (by omega) (by omega))
  · have hp : p < δ.1.1 := hp
    exact (v5 711 (by omega) (by omega) p (by omega)).trans (a1 p hp).2.2.2
  · have hz : z < δ.2.1.1 := hz
    exact ⟨(v6 713 (by omega) (by omega) z (by omega)).trans (c1 z hz).2.1, (v6 714 (by omega) (by omega) z (by omega)).trans (c1 z hz).2.2.1⟩
  · have hp : p < δ.1.1 := hp
    show μ1.1 709 0 p = xgoF δ Gf p ∧ μ1.1 710 0 p = xbaF δ Gf p
    unfold xgoF xbaF
    rw [if_pos hp, if_pos hp]
    exact ⟨(v5 709 (by omega) (by omega) p (by omega)).trans (a1 p hp).2.1, (v5 710 (by omega) (by omega) p (by omega)).trans (a1 p hp).2.2.1⟩
  · have hz : z < δ.2.1.1 := hz
    exact ⟨(v6 715 (by omega) (by omega) z (by omega)).trans (c1 z hz).2.2.2, (v6 712 (by omega) (by omega) z (by omega)).trans (c1 z hz).1⟩
  · have hp : p < δ.1.1 := hp
    exact (v5 708 (by omega) (by omega) p (by omega)).trans (a1 p hp).1
/-- what is told stands in the first halves -/
theorem tdM.hv {τ : tdV} (h : tdM μ τ) (hO : tdOk τ) (hv : ∀ k, 707 ≤ k → k ≤ 720 → ∀ z, z < hf k → μ1.1 k 0 z = μ.1 k 0 z) : tdM μ1 τ := by
  obtain ⟨⟨a0, a1, a2, a3, a4, ⟨a5, a6, a7⟩, a8⟩, ⟨c1, c2, c3⟩, c4, c5, c6, c7, c8, c9⟩ := h
  obtain ⟨⟨m5, -, -, lw⟩, n6, -⟩ := hO
  have v7 : ∀ z, z < 10 → μ1.1 707 0 z = μ.1 707 0 z := fun z hz => hv 707 (by omega) (by omega) z hz
  have v5 : ∀ k, 708 ≤ k → k ≤ 711 → ∀ z, z < 5 → μ1.1 k 0 z = μ.1 k 0 z := fun k k1 k2 z hz => by
    have hk : hf k = 5 := by unfold hf; rw [if_neg (by omega), if_pos k2]
    exact hv k (by omega) (by omega) z (by omega)
  have v6 : ∀ k, 712 ≤ k → k ≤ 715 → ∀ z, z < 6 → μ1.1 k 0 z = μ.1 k 0 z := fun k k1 k2 z hz => by
    have hk : hf k = 6 := by unfold hf; rw [if_neg (by omega), if_neg (by omega), if_pos k2]
    exact hv k (by omega) (by omega) z (by omega)
  have v16 : ∀ z, z < 30 → μ1.1 716 0 z = μ.1 716 0 z := fun z hz => hv 716 (by omega) (by omega) z hz
  have v17 : ∀ z, z < 3 → μ1.1 717 0 z = μ.1 717 0 z ∧ μ1.1 718 0 z = μ.1 718 0 z := fun z hz => ⟨hv 717 (by omega) (by omega) z hz, hv 718 (by omega) (by omega) z hz⟩
  have v19 : ∀ z, z < 64 → μ1.1 719 0 z = μ.1 719 0 z ∧ μ1.1 720 0 z = μ.1 720 0 z := fun z hz => ⟨hv 719 (by omega) (by omega) z hz, hv 720 (by omega) (by omega) z hz⟩
  refine ⟨⟨(v7 0 (by omega)).trans a0, (v7 1 (by omega)).trans a1, a2, fun r hr => ⟨(v17 r hr).1.trans (a3 r hr).1, (v17 r hr).2.trans (a3 r hr).2.1, fun i h1 h2 => ?_⟩, (v7 4 (by omega)).trans a4, ⟨(v7 5 (by omega)).trans a5, (v7 6 (by omega)).trans a6, (v7 3 (by omega)).trans a7⟩, fun p hp => (v5 711 (by omega) (by omega) p (by omega)).trans (a8 p hp)⟩, ⟨fun z hz => ⟨(v6 713 (by omega) (by omega) z (by omega)).trans (c1 z hz).1, (v6 714 (by omega) (by omega) z (by omega)).trans (c1 z hz).2⟩, fun k hk => (v16 k hk).trans (c2 k hk), fun p hp => ⟨(v5 709 (by omega) (by omega) p (by omega)).trans (c3 p hp).1, (v5 710 (by omega) (by omega) p (by omega)).trans (c3 p hp).2⟩⟩, fun z hz => ⟨(v6 715 (by omega) (by omega) z (by omega)).trans (c4 z hz).1, (v6 712 (by omega) (by omega) z (by omega)).trans (c4 z hz).2⟩, fun p hp => (v5 708 (by omega) (by omega) p (by omega)).trans (c5 p hp), (v7 2 (by omega)).trans c6, (v7 7 (by omega)).trans c7, (v7 8 (by omega)).trans c8, (v7 9 (by omega)).trans c9⟩
  have := (lw r hr).2.1
  rw [(v19 i (by omega)).1, (v19 i (by omega)).2]
  exact (a3 r hr).2.2 i h1 h2
end MX
