/-! the reference's text -/
def gmF (μ μ' : gMem) : Prop := (∀ k j, ¬ (j = 0 ∧ (k = 10 ∨ (707 ≤ k ∧ k ≤ 720))) → μ'.1 k j = μ.1 k j) ∧ (∀ j, ¬ (j = 0 ∨ j = 2 ∨ (17 ≤ j ∧ j ≤ 29)) → μ'.1 10 0 j = μ.1 10 0 j) ∧ (∀ k, 707 ≤ k → k ≤ 720 → ∀ z, z < hf k → μ'.1 k 0 z = μ.1 k 0 z) ∧ μ'.2 = μ.2
theorem gmF.tr {μ μ1 μ2 : gMem} (h : gmF μ μ1) (h2 : gmF μ1 μ2) : gmF μ μ2 := ⟨fun k j a => (h2.1 k j a).trans (h.1 k j a), fun j a => (h2.2.1 j a).trans (h.2.1 j a), fun k a b z c => (h2.2.2.1 k a b z c).trans (h.2.2.1 k a b z c), h2.2.2.2.trans h.2.2.2⟩
theorem lmF.g {μ μ' : gMem} (h : lmF μ μ') : gmF μ μ' := ⟨h.1, fun j a => h.2.1 j (by omega), h.2.2.1, h.2.2.2.1⟩
theorem gmF.p10 {j : Nat} {μ μ1 : gMem} {v : Int32} (h : gmF μ μ1) (hj : j = 0 ∨ j = 2 ∨ (17 ≤ j ∧ j ≤ 29)) : gmF μ (gsI μ1 10 0 j v) := h.tr ⟨fun a b x => gsI_off (by omega), fun a _ => by rw [gsI_at, if_neg (by omega)], fun a x y z _ => by rw [gsI_off (by omega)], rfl⟩
theorem gmF.rf {μ : gMem} : gmF μ μ := ⟨fun _ _ _ => rfl, fun _ _ => rfl, fun _ _ _ _ _ => rfl, rfl⟩
section MY
variable {l : Launch} {D : gD} {d : Nat} {μ μ0 μ1 μ2 μa : gMem} {σ : sV} {x1 : Int32} {Γ : gC}
theorem mSt_gm {π : Nat × (Nat → Int32) × Int32 × Int32} (h : mSt μ σ) (hO : sOkS σ) (hF : gmF μ μ1) (hT : tpM μ1 π) : mSt μ1 (setP σ π) := by
  obtain ⟨a1, a2, a3, a4, a5, a6, a7⟩ := h
  have gk : ∀ k, ¬ k = 10 → ¬ (707 ≤ k ∧ k ≤ 720) → μ1.1 k 0 = μ.1 k 0 := fun k x y => hF.1 k 0 (by omega)
  have g10 : ∀ j, 30 ≤ j → μ1.1 10 0 j = μ.1 10 0 j := fun j hj => hF.2.1 j (by omega)
  have hw : ∀ m V, hM μ (eMen σ.1.1) m V → hM μ1 (eMen σ.1.1) m V := fun m V hh => hh.of (fun k _ _ z _ _ => by rw [gk k (by omega) (by omega)]) (fun z _ _ => by rw [gk 751 (by omega) (by omega)]) (fun k _ _ => by rw [gk k (by omega) (by omega)])
  exact ⟨by rw [g10 51 (by omega), g10 52 (by omega)]; exact a1, a2.hv hO.1 hF.2.2.1, hw 0 _ a3, a4.of (fun k hk => gk k (by omega) (by omega)) (fun j hj => g10 j (by omega)), a5.of (g10 49 (by omega)) (hw 2), ⟨by rw [g10 50 (by omega)]; exact a6.1, fun k hk => hw _ _ (a6.2 k hk)⟩, hT⟩
theorem gm_kp (hF : gmF μ μ1) : cKp μ μ1 := ⟨fun k j x y => hF.1 k j (by omega), by rw [hF.2.2.2], fun k j _ => by rw [hF.2.2.2]⟩
theorem text_1 {q : Int32 → gMem → Prop} (hd : 1 ≤ d) (hq : ∀ ν, (∀ k j, ¬ (k = 707 ∧ j = 0) → ν.1 k j = μa.1 k j) → (∀ z, z < 10 → ν.1 707 0 z = μa.1 707 0 z) → ν.2 = μa.2 → (∀ z, z < 10 → ν.1 707 0 (10 + z) = if z = 4 then 7 else 0) → pt_X10_text_3 l D d q Γ 0 (nI 30) ν) : ∀ (c j : Nat) (ν : gMem), j + c = 10 → (∀ k j, ¬ (k = 707 ∧ j = 0) → ν.1 k j = μa.1 k j) → (∀ z, z < 10 → ν.1 707 0 z = μa.1 707 0 z) → ν.2 = μa.2 → (∀ z, z < j → ν.1 707 0 (10 + z) = if z = 4 then 7 else 0) → pt_X10_text_1 l D d q Γ 0 (nI j) ν := by
  intro c
  induction c with
  | zero =>
    intro j ν hj ha hb hc hz
    obtain rfl : j = 10 := by omega
    refine bl_X10_text_1 (by decide) ⟨fun _ => ?_, fun w => absurd (by decide) w⟩
    rintro _ rfl
    exact hq ν ha hb hc hz
  | succ c ih =>
    intro j ν hj ha hb hc hz
    have stp : ∀ x : Int32, x = (if j = 4 then 7 else 0) → pt_X10_text_2 l D d q Γ 0 (nI j) 0 (nI j) x ν := by
      intro x hx
      refine bl_X10_text_2 (by decide) (by decide) ⟨0, fun ν' => ν' = gsI ν 707 0 (10 + j) x, by omega, en_X10_reads (fun Γ => bl_X10_reads_0 (by decide) ⟨10 + j, by omega, nI_add 10 j, fun νr er => er⟩), ?_⟩
      rintro ν5 e5 _ rfl
      rw [nI_1]
      refine ih (j + 1) ν5 (by omega) (fun k i hk => by rw [e5, gsI_off (by omega)]; exact ha k i hk) (fun z hz2 => by rw [e5, gsI_at, if_neg (by omega)]; exact hb z hz2) (by rw [e5]; exact hc) (fun z hz2 => ?_)
      rw [e5, gsI_at]
      by_cases ez : z = j
      · rw [if_pos ⟨rfl, rfl, by omega⟩, hx, ez]
      · rw [if_neg (by omega)]; exact hz z (by omega)
    refine bl_X10_text_1 (by decide) ⟨fun w => absurd ((nI_leI (a := 10) (by omega) (by omega)).mp w) (by omega), fun _ => ⟨fun w => stp 0 ?_, fun w => stp 7 ?_⟩⟩
    · rw [if_neg (fun e4 => w (by rw [e4]; rfl))]
    · rw [if_pos ((nI_eq (b := 4) (by omega) (by omega)).mp w)]
theorem text_3 {q : Int32 → gMem → Prop} (hq : ∀ ν, (∀ k j, ¬ (k = 716 ∧ j = 0) → ν.1 k j = μa.1 k j) → (∀ z, z < 30 → ν.1 716 0 z = μa.1 716 0 z) → ν.2 = μa.2 → (∀ z, z < 30 → ν.1 716 0 (30 + z) = 0) → pt_X10_text_4 l D d q Γ 0 (nI 3) ν) : ∀ (c j : Nat) (ν : gMem), j + c = 30 → (∀ k j, ¬ (k = 716 ∧ j = 0) → ν.1 k j = μa.1 k j) → (∀ z, z < 30 → ν.1 716 0 z = μa.1 716 0 z) → ν.2 = μa.2 → (∀ z, z < j → ν.1 716 0 (30 + z) = 0) → pt_X10_text_3 l D d q Γ 0 (nI (30 + j)) ν := by
  intro c
  induction c with
  | zero =>
    intro j ν hj ha hb hc hz
    obtain rfl : j = 30 := by omega
    refine bl_X10_text_3 (by decide) ⟨fun _ => ?_, fun w => absurd (by decide) w⟩
    rintro _ rfl
    exact hq ν ha hb hc hz
  | succ c ih =>
    intro j ν hj ha hb hc hz
    refine bl_X10_text_3 (by decide) ⟨fun w => absurd ((nI_leI (a := 60) (by omega) (by omega)).mp w) (by omega), fun _ => ⟨30 + j, by omega, rfl, ?_⟩⟩
    rintro ν5 e5 _ rfl
    rw [nI_1]
    refine ih (j + 1) ν5 (by omega) (fun k i hk => by rw [e5, gsI_off (by omega)]; exact ha k i hk) (fun z hz2 => by rw [e5, gsI_at, if_neg (by omega)]; exact hb z hz2) (by rw [e5]; exact hc) (fun z hz2 => ?_)
    rw [e5, gsI_at]
    by_cases ez : z = j
    · rw [if_pos ⟨rfl, rfl, by omega⟩]
    · rw [if_neg (by omega)]; exact hz z (by omega)
theorem text_4 {q : Int32 → gMem → Prop} (hq : ∀ ν, (∀ k j, ¬ ((k = 717 ∨ k = 718) ∧ j = 0) → ν.1 k j = μa.1 k j) → (∀ z, z < 3 → ν.1 717 0 z = μa.1 717 0 z ∧ ν.1 718 0 z = μa.1 718 0 z) → ν.2 = μa.2 → (∀ z, z < 3 → ν.1 717 0 (3 + z) = 0 ∧ ν.1 718 0 (3 + z) = 0) → pt_X10_text_4 l D d q Γ 0 (nI 6) ν) : ∀ (c j : Nat) (ν : gMem), j + c = 3 → (∀ k j, ¬ ((k = 717 ∨ k = 718) ∧ j = 0) → ν.1 k j = μa.1 k j) → (∀ z, z < 3 → ν.1 717 0 z = μa.1 717 0 z ∧ ν.1 718 0 z = μa.1 718 0 z) → ν.2 = μa.2 → (∀ z, z < j → ν.1 717 0 (3 + z) = 0 ∧ ν.1 718 0 (3 + z) = 0) → pt_X10_text_4 l D d q Γ 0 (nI (3 + j)) ν := by
  intro c
  induction c with
  | zero =>
    intro j ν hj ha hb hc hz
    obtain rfl : j = 3 := by omega
    exact hq ν ha hb hc hz
  | succ c ih =>
    intro j ν hj ha hb hc hz
    refine bl_X10_text_4 (by decide) ⟨fun w => absurd ((nI_leI (a := 6) (by omega) (by omega)).mp w) (by omega), fun _ => ⟨3 + j, by omega, rfl, ?_⟩⟩
    rintro ν4 e4
    refine ⟨3 + j, by omega, rfl, ?_⟩
    rintro ν5 e5 _ rfl
    rw [nI_1]
    refine ih (j + 1) ν5 (by omega) (fun k i hk => by rw [e5, gsI_off (by omega), e4, gsI_off (by omega)]; exact ha k i hk) (fun z hz2 => ?_) (by rw [e5, e4]; exact hc) (fun z hz2 => ?_)
    · rw [e5, gsI_off (by omega), gsI_at, if_neg (by omega), e4, gsI_at, if_neg (by omega), gsI_off (by omega)]
      exact hb z hz2
    · rw [e5, gsI_off (by omega), gsI_at, e4, gsI_at, gsI_off (by omega)]
      by_cases ez : z = j
      · rw [if_pos ⟨rfl, rfl, by omega⟩, if_pos ⟨rfl, rfl, by omega⟩]
        exact ⟨rfl, rfl⟩
      · rw [if_neg (by omega), if_neg (by omega)]
        exact hz z (by omega)
theorem df0_L : dfL df0 := fun r _ => ⟨Nat.le_refl _, Nat.le_refl _, fun w => absurd w (Nat.lt_irrefl _)⟩
theorem df0_ok : okD df0 := ⟨df0_B, df0_R, df0_L⟩
/-- behind the lines -/
theorem text_6 {R : rsL dfT} {ν : gMem} (hd : 2 ≤ d) (h : mSt μ σ) (hO : sOkS σ) (hK : cKp μ0 μ) (hG : gmF μ ν) (h2 : ν.1 10 0 2 = 0) (h25 : ν.1 10 0 24 = 0 → ν.1 10 0 25 = -1) (hR : txV σ x1 = txA R ∧ ∀ Gf, txS σ x1 Gf = txO σ Gf R) (hH : tmH R ν) : pt_X10_text_6 l D d (fun v μ' => v = txV σ x1 ∧ cKp μ0 μ' ∧ ∀ Gf, mSt μ' (txS σ x1 Gf) ∧ sOkS (txS σ x1 Gf)) Γ 0 ν := by
  refine bl_X10_text_6 (by decide) ?_
  rintro ν1 ev1 ν2 ev2
  have o2 : ∀ j, ¬ j = 26 → ¬ j = 27 → ν2.1 10 0 j = ν.1 10 0 j := fun j ha hb => by rw [ev2, gsI_at, if_neg (by omega), ev1, gsI_at, if_neg (by omega)]
  have p2 : ∀ k j, ¬ (k = 10 ∧ j = 0) → ν2.1 k j = ν.1 k j := fun k j hk => by rw [ev2, gsI_off (by omega), ev1, gsI_off (by omega)]
  have s26 : ν2.1 10 0 26 = ν.1 10 0 24 := by rw [ev2, gsI_at, if_neg (by omega), ev1, gsI_s]
  have s27 : ν2.1 10 0 27 = ν.1 10 0 25 := by rw [ev2, gsI_s, ev1, gsI_at, if_neg (by omega)]
  have G2 : gmF μ ν2 := by rw [ev2, ev1]; exact (hG.p10 (by omega)).p10 (by omega)
  clear ev1 ev2
  rw [hR.1]
  rcases R with ⟨kk, qq⟩ | ⟨δ, nn⟩
  · have f7 : flM ν kk qq := hH
    refine ⟨fun w => absurd ((o2 24 (by omega) (by omega)).symm.trans w) f7.nz, fun _ => ⟨rfl, hK.tr (gm_kp G2), fun Gf => ?_⟩⟩
    rw [hR.2]
    exact ⟨mSt_gm h hO G2 ⟨by rw [o2 2 (by omega) (by omega)]; exact h2, fun k hk => absurd hk (Nat.not_lt_zero _), by rw [s26]; exact f7.2.1, by rw [s27]; exact f7.2.2⟩, txB_ok hO⟩
  · obtain ⟨h24, hM, hOD, h18⟩ := hH
    refine ⟨fun _ => ?_, fun w => absurd ((o2 24 (by omega) (by omega)).trans h24) w⟩
    have M2 : dfM ν2 δ := hM.of (fun k hk => p2 k 0 (by omega)) (fun j hj => o2 j (by omega) (by omega))
    refine ⟨0, _, by omega, c_X10_half (k0 := 707) (h := 10) (by decide) (by decide) (by decide) (by decide), ?_⟩
    rintro νh707 hs707
    have hvq708 : hvF 708 ν2 νh707 := hvF.rf.st (by decide) hs707
    refine ⟨0, _, by omega, c_X10_half (k0 := 708) (h := 5) (by decide) (by decide) (by decide) (by decide), ?_⟩
    rintro νh708 hs708
    have hvq709 : hvF 709 ν2 νh708 := hvq708.st (by decide) hs708
    refine ⟨0, _, by omega, c_X10_half (k0 := 709) (h := 5) (by decide) (by decide) (by decide) (by decide), ?_⟩
    rintro νh709 hs709
    have hvq710 : hvF 710 ν2 νh709 := hvq709.st (by decide) hs709
    refine ⟨0, _, by omega, c_X10_half (k0 := 710) (h := 5) (by decide) (by decide) (by decide) (by decide), ?_⟩
    rintro νh710 hs710
    have hvq711 : hvF 711 ν2 νh710 := hvq710.st (by decide) hs710
    refine ⟨0, _, by omega, c_X10_half (k0 := 711) (h := 5) (by decide) (by decide) (by decide) (by decide), ?_⟩
    rintro νh711 hs711
    have hvq712 : hvF 712 ν2 νh711 := hvq711.st (by decide) hs711
    refine ⟨0, _, by omega, c_X10_half (k0 := 712) (h := 6) (by decide) (by decide) (by decide) (by decide), ?_⟩
    rintro νh712 hs712
    have hvq713 : hvF 713 ν2 νh712 := hvq712.st (by decide) hs712
    refine ⟨0, _, by omega, c_X10_half (k0 := 713) (h := 6) (by decide) (by decide) (by decide) (by decide), ?_⟩
    rintro νh713 hs713
    have hvq714 : hvF 714 ν2 νh713 := hvq713.st (by decide) hs713
    refine ⟨0, _, by omega, c_X10_half (k0 := 714) (h := 6) (by decide) (by decide) (by decide) (by decide), ?_⟩
    rintro νh714 hs714
    have hvq715 : hvF 715 ν2 νh714 := hvq714.st (by decide) hs714
    refine ⟨0, _, by omega, c_X10_half (k0 := 715) (h := 6) (by decide) (by decide) (by decide) (by decide), ?_⟩
    rintro νh715 hs715
    have hvq716 : hvF 716 ν2 νh715 := hvq715.st (by decide) hs715
    refine ⟨0, _, by omega, c_X10_half (k0 := 716) (h := 30) (by decide) (by decide) (by decide) (by decide), ?_⟩
    rintro νh716 hs716
    have hvq717 : hvF 717 ν2 νh716 := hvq716.st (by decide) hs716
    refine ⟨0, _, by omega, c_X10_half (k0 := 717) (h := 3) (by decide) (by decide) (by decide) (by decide), ?_⟩
    rintro νh717 hs717
    have hvq718 : hvF 718 ν2 νh717 := hvq717.st (by decide) hs717
    refine ⟨0, _, by omega, c_X10_half (k0 := 718) (h := 3) (by decide) (by decide) (by decide) (by decide), ?_⟩
    rintro νh718 hs718
    have hvq719 : hvF 719 ν2 νh718 := hvq718.st (by decide) hs718
    refine ⟨0, _, by omega, c_X10_half (k0 := 719) (h := 64) (by decide) (by decide) (by decide) (by decide), ?_⟩
    rintro νh719 hs719
    have hvq720 : hvF 720 ν2 νh719 := hvq719.st (by decide) hs719
    refine ⟨0, _, by omega, c_X10_half (k0 := 720) (h := 64) (by decide) (by decide) (by decide) (by decide), ?_⟩
    rintro νh720 hs720
    have hvq721 : hvF 721 ν2 νh720 := hvq720.st (by decide) hs720
    rintro νb1 eb1 νb2 eb2 νb3 eb3 νb4 eb4
    have ob : ∀ k j, ¬ (k = 10 ∧ j = 0) → νb4.1 k j = νh720.1 k j := fun k j hk => by rw [eb4, gsI_off (by omega), eb3, gsI_off (by omega), eb2, gsI_off (by omega), eb1, gsI_off (by omega)]
    have gb : ∀ j, ¬ j = 55 → ¬ j = 56 → ¬ j = 49 → ¬ j = 50 → νb4.1 10 0 j = νh720.1 10 0 j := fun j ha hb hc he => by rw [eb4, gsI_at, if_neg (by omega), eb3, gsI_at, if_neg (by omega), eb2, gsI_at, if_neg (by omega), eb1, gsI_at, if_neg (by omega)]
    have s50 : νb4.1 10 0 50 = 0 := by rw [eb4, gsI_s]
    have s49 : νb4.1 10 0 49 = 0 := by rw [eb4, gsI_at, if_neg (by omega), eb3, gsI_s]
    have s56 : νb4.1 10 0 56 = -1 := by rw [eb4, gsI_at, if_neg (by omega), eb3, gsI_at, if_neg (by omega), eb2, gsI_s]
    have s55 : νb4.1 10 0 55 = 0 := by rw [eb4, gsI_at, if_neg (by omega), eb3, gsI_at, if_neg (by omega), eb2, gsI_at, if_neg (by omega), eb1, gsI_s]
    have mb : νb4.2 = νh720.2 := by rw [eb4, eb3, eb2, eb1]; rfl
    clear eb1 eb2 eb3 eb4
    refine ⟨1, _, by omega, c_X10_begins (by omega), ?_⟩
    rintro νz ez
    obtain ⟨hva, hvb, hvc⟩ := hvq721
    have oz : ∀ k i, ¬ (737 ≤ k ∧ k ≤ 751 ∧ i = 0) → νz.1 k i = νb4.1 k i := fun k i hk => by rw [ez]; exact mst_off hk
    have mz : νz.2 = νb4.2 := by rw [ez]; rfl
    have z10 : ∀ j, ¬ j = 55 → ¬ j = 56 → ¬ j = 49 → ¬ j = 50 → ¬ j = 26 → ¬ j = 27 → νz.1 10 0 j = ν.1 10 0 j := fun j ha hb hc he hf2 hg => by rw [oz 10 0 (by omega), gb j ha hb hc he, hva 10 0 (by omega), o2 j hf2 hg]
    have zhv : ∀ k, 707 ≤ k → k ≤ 720 → ∀ z, z < hf k → νz.1 k 0 z = ν2.1 k 0 (hf k + z) := fun k k1 k2 z hz => by rw [oz k 0 (by omega), ob k 0 (by omega), hvb k k1 (by omega) z, if_pos hz]
    have b707 : ∀ z, z < 10 → νb4.1 707 0 z = ν2.1 707 0 (10 + z) := fun z hz => by rw [ob 707 0 (by omega), hvb 707 (by omega) (by omega) z, show hf 707 = 10 from rfl, if_pos hz]
    have b716 : ∀ z, z < 30 → νb4.1 716 0 z = δ.2.2.1.2 z := fun z hz => by
      rw [ob 716 0 (by omega), hvb 716 (by omega) (by omega) z, show hf 716 = 30 from rfl, if_pos hz]
      exact M2.2.2.1.2 z hz
    have zfar : ∀ k i, ¬ (i = 0 ∧ (k = 10 ∨ (707 ≤ k ∧ k ≤ 720) ∨ (737 ≤ k ∧ k ≤ 751))) → νz.1 k i = μ.1 k i := fun k i hk => by rw [oz k i (by omega), ob k i (by omega), hva k i (by omega), G2.1 k i (by omega)]
    have m2z : νz.2 = μ.2 := by rw [mz, mb, hvc, G2.2.2.2]
    refine ⟨?_, hK.tr ⟨fun k j ha hb => zfar k j (by omega), by rw [m2z], fun k j _ => by rw [m2z]⟩, fun Gf => ?_⟩
    · rw [z10 18 (by omega) (by omega) (by omega) (by omega) (by omega) (by omega)]
      exact h18
    rw [hR.2]
    refine ⟨?_, txN_ok hOD⟩
    have td : tdM νz (xtdF δ Gf) := tdM_df M2 hOD zhv
    have men5 := hOD.1.1
    refine ⟨⟨?_, ?_⟩, td, ⟨fun k hk j hj => ?_, fun k hk j hj => ?_, ?_, ?_, ?_⟩, ⟨?_, ?_, fun k hk => absurd hk (Nat.not_lt_zero _)⟩, ?_, ⟨?_, fun k hk => absurd hk (Nat.not_lt_zero _)⟩, ⟨?_, fun k hk => absurd hk (Nat.not_lt_zero _), ?_, ?_⟩⟩
    · rw [z10 51 (by omega) (by omega) (by omega) (by omega) (by omega) (by omega), hG.2.1 51 (by omega)]
      exact h.1.1
    · rw [z10 52 (by omega) (by omega) (by omega) (by omega) (by omega) (by omega), hG.2.1 52 (by omega)]
      exact h.1.2
    · have hk : k < δ.1.1 := hk
      have hrng := mkk_rng j (by omega)
      rw [ez, mst_5 (by omega) (by omega) (by omega)]
      have tv := td.2.1.2.2 k hk
      have e707 : νb4.1 707 0 0 = nI δ.1.1 := by rw [b707 0 (by omega)]; exact M2.1.1
      have nle : ¬ νb4.1 707 0 0 ≤ nI k := by rw [e707, nI_leI (by omega) (by omega)]; omega
      have t709 : νb4.1 709 0 k = xgoF δ Gf k := by rw [← oz 709 0 (by omega)]; exact tv.1
      have t710 : νb4.1 710 0 k = xbaF δ Gf k := by rw [← oz 710 0 (by omega)]; exact tv.2
      show stV νb4 (mkk j) k = psn (xgoF δ Gf k) (xbaF δ Gf k) j
      unfold stV
      rw [if_neg nle, if_neg nle, t709, t710]
      unfold psn
      exact eleven (P := fun j => (if mkk j = 740 then xgoF δ Gf k else if mkk j = 741 then xbaF δ Gf k else if mkk j = 747 then (1 : Int32) else 0) = (if j = 0 then xgoF δ Gf k else if j = 1 then xbaF δ Gf k else if j = 10 then 1 else 0)) rfl rfl rfl rfl rfl rfl rfl rfl rfl rfl rfl j hj
    · rw [ez, show 30 * 0 + 6 * k + j = 30 * 0 + (6 * k + j) by omega, mst_t (by omega), b716 (6 * k + j) (by omega)]
      show _ = if j < 6 then δ.2.2.1.2 (6 * k + j) else 0
      rw [if_pos hj]
    · rw [ez, mst_3 (by omega) (by omega), if_neg (by omega)]
      rfl
    · rw [ez, mst_3 (by omega) (by omega), if_neg (by omega)]
      rfl
    · rw [ez, mst_3 (by omega) (by omega), if_pos rfl, b707 8 (by omega)]
      exact M2.2.2.2.1 8 (by omega) (by omega)
    · rw [oz 10 0 (by omega)]
      exact s55
    · rw [oz 10 0 (by omega)]
      exact s56
    · show νz.1 10 0 49 = 0
      rw [oz 10 0 (by omega)]
      exact s49
    · rw [oz 10 0 (by omega)]
      exact s50
    · rw [z10 2 (by omega) (by omega) (by omega) (by omega) (by omega) (by omega)]
      exact h2
    · rw [oz 10 0 (by omega), gb 26 (by omega) (by omega) (by omega) (by omega), hva 10 0 (by omega), s26]
      exact h24
    · rw [oz 10 0 (by omega), gb 27 (by omega) (by omega) (by omega) (by omega), hva 10 0 (by omega), s27]
      exact h25 h24
end MY
