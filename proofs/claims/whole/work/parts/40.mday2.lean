/-! the reference's passes -/
/-- the number drawn -/
def drw (x : Int32) : Int32 := ((x * (1103515245 : Int32)) + (12345 : Int32)) &&& (2147483647 : Int32)
def odM (μ : gMem) : Int32 := if μ.1 10 0 51 = 1 then 0 else μ.1 707 0 7
abbrev byN (μ : gMem) (b : Int32) : Prop := ¬ b = 0 ∧ ¬ odM μ ≤ 0
/-- is it wet by such a number -/
def wtD (odds x : Int32) : Int32 := if odds ≤ ((x >>> ((16 : Int32) &&& 31)) - (x >>> ((16 : Int32) &&& 31)) / (100 : Int32) * (100 : Int32)) then 0 else 1
def wtG (odds : Int32) : Int32 := if odds < 50 then 0 else 1
section MD2
variable {l : Launch} {D : gD} {d : Nat} {μ : gMem}
theorem passes_zero {Γ : gC} {q : gMem → Prop} {m : Nat} {μ0 : gMem} (hw : m < 23) (hq : ∀ μ', (∀ k j, ¬ (k = 744 ∧ j = 0) → μ'.1 k j = μ0.1 k j) → (∀ z, μ'.1 744 0 z = if 5 * m ≤ z ∧ z < 5 * m + 5 then 0 else μ0.1 744 0 z) → μ'.2 = μ0.2 → q μ') :
    ∀ (c j : Nat) (μ : gMem), j + c = 5 → (∀ k j, ¬ (k = 744 ∧ j = 0) → μ.1 k j = μ0.1 k j) → (∀ z, μ.1 744 0 z = if 5 * m ≤ z ∧ z < 5 * m + j then 0 else μ0.1 744 0 z) → μ.2 = μ0.2 → pt_X10_passes_9 l D d q Γ 0 (nI m) (nI j) μ := by
  have e5 : (5 : Int32) = nI 5 := rfl
  intro c
  induction c with
  | zero =>
    intro j μ hj h1 h2 h3
    obtain rfl : j = 5 := by omega
    refine bl_X10_passes_9 (by decide) ⟨fun _ => hq μ h1 h2 h3, fun h => ?_⟩
    rw [e5] at h
    exact absurd (nI_le (Nat.le_refl _) (by omega)) h
  | succ c ih =>
    intro j μ hj h1 h2 h3
    refine bl_X10_passes_9 (by decide) ⟨fun h => ?_, fun _ => ⟨5 * m + j, by omega, ix5 m j, ?_⟩⟩
    · rw [e5] at h
      exact absurd h (nI_ge (by omega) (by omega))
    · rintro _ rfl _ rfl
      rw [nI_1]
      refine ih (j + 1) _ (by omega) (fun k j' h => by rw [gsI_off h]; exact h1 k j' h) (fun z => ?_) h3
      rw [gsI_row]
      show (if z = 5 * m + j then 0 else μ.1 744 0 z) = _
      rw [h2 z]
      by_cases hz : z = 5 * m + j
      · rw [if_pos hz, if_pos (by omega)]
      · rw [if_neg hz]
        by_cases h4 : 5 * m ≤ z ∧ z < 5 * m + j
        · rw [if_pos h4, if_pos (by omega)]
        · rw [if_neg h4, if_neg (by omega)]
theorem pe4 {μ : gMem} {i : Nat} : peM μ i 4 = μ.1 744 0 i := rfl
theorem onI_rng {b : Option Nat} {v : Int32} (h : onI b = v) (h1 : ¬ v = -1) : ∃ k, b = some k ∧ v = nI k := by
  cases b with
  | none => exact absurd h.symm h1
  | some k => exact ⟨k, rfl, h.symm⟩
set_option maxHeartbeats 4000000 in
theorem passes_six {Γ : gC} {q : gMem → Prop} {n m e dy : Nat} {A : wEnv} {S : pplS} {wet : Int32} (hd : 5 ≤ d) (hw : m < 23) (h0 : wM μ n m A e S dy) (he : e ≤ 2000) (hdy : dy < 100000)
    (hq : ∀ μ', mwFr m μ μ' → wM μ' n m A e (stp A wet dy S) (dy + 1) → (∀ k, k = 738 ∨ k = 739 → μ'.1 k 0 = μ.1 k 0) → μ'.1 10 0 48 = (if dueS A dy then wnr A wet dy S else -1) → q μ') : pt_X10_passes_6 l D d q Γ 0 (nI m) wet 0 μ := by
  have h0' := h0
  obtain ⟨hT, hA, ⟨hg, hpl, hon⟩, hps, hr0, hS, hdy1⟩ := h0
  have hm5 := hA.1
  -- how a memory behind the day holds
  have hold : ∀ μ', mwFr m μ μ' → μ'.1 737 0 m = nI (dy + 1) → (∀ k, k < eMen A → peM μ' (5 * m + k) = stp A wet dy S k) → wM μ' n m A e (stp A wet dy S) (dy + 1) := by
    intro μ' hF h7 hr
    refine ⟨hF.tM hT, hA, ⟨hF.gn.trans hg, hF.pl.trans hpl, hon⟩, fun p hp => ?_, fun k hk => ⟨hr k hk, ?_⟩, okS_stp hA he hdy hS, h7⟩
    · rw [hF.pr (by omega) (by omega), hF.pr (by omega) (by omega)]
      exact hps p hp
    · rw [hF.2.2.2.1]
      exact (hr0 k hk).2
  refine passes_loop (F := midS A wet dy S) hd hw h0' hdy ?_ (eMen A) 0 μ S (by omega) mwFr.rf (fun _ _ _ => rfl) (fun k hk => (hr0 k hk).1) (fun _ _ _ => rfl) (fun k hk => rfl)
  intro μ1 hF1 h7 hr1
  have hT1 := hF1.tM hT
  refine bl_X10_passes_6 (by decide) ⟨fun _ => ?_, fun h => ?_⟩
  · rintro μ2 hμ2
    refine ⟨m, hw, rfl, m, hw, rfl, ?_⟩
    rintro μ3 hμ3
    have e737 : μ2.1 737 0 m = nI dy := by rw [hμ2, gsI_off (by omega), h7 737 (by omega) (by omega)]; exact hdy1
    rw [e737, nI_1] at hμ3
    have hF3 : mwFr m μ μ3 := by rw [hμ3, hμ2]; exact (hF1.win _).day (by omega) (by omega) _
    have e3 : μ3.1 737 0 m = nI (dy + 1) := by rw [hμ3, gsI_row]; simp
    have hT3 := hF3.tM hT
    have hr3 : ∀ k, k < eMen A → peM μ3 (5 * m + k) = midS A wet dy S k := by
      intro k hk
      rw [← hr1 k hk]
      refine peM_cong (fun z h1 h2 => ?_) ?_
      · rw [hμ3, gsI_off (by omega), hμ2, gsI_off (by omega)]
      · rw [hF3.2.2.2.2.1 51 (by omega) (by omega), hF1.2.2.2.2.1 51 (by omega) (by omega)]
    have h89 : ∀ k, k = 738 ∨ k = 739 → μ3.1 k 0 = μ.1 k 0 := by
      intro k hk
      rw [hμ3, gsI_off (by omega), hμ2, gsI_off (by omega)]
      exact h7 k (by omega) (by omega)
    refine ⟨m, hw, rfl, ?_⟩
    rw [e3, hT3.2.2.2.2.1]
    refine ⟨nI_ne0 hA.2.1 (by have := hA.2.2.1; omega), fun h => ?_, fun h => ?_⟩
    · rw [day_mod (by omega) hA.2.1 (by have := hA.2.2.1; omega)] at h
      have hdue : dueS A dy := h
      refine ⟨1, _, by omega, c_X10_leader (men := eMen A) (by omega) hT3.1 hm5 hw, ?_⟩
      rintro v μ4 ⟨hv, rfl⟩
      have hv2 : v = wnr A wet dy S := by
        rw [hv, hF3.gn, hg, wnr, ldF_cong (m := eMen A) (g := fun z => midS A wet dy S z 4) (eMen A) 0 none (by omega) (fun k hk => by cases hk) (fun k hk => by rw [← hr3 k hk]; rfl)]
      rintro μ5 hμ5
      have e48 : μ5.1 10 0 48 = v := by rw [hμ5, gsI_row]; simp
      have hF5 : mwFr m μ μ5 := by rw [hμ5]; exact hF3.win _
      have hr5 : ∀ k, k < eMen A → peM μ5 (5 * m + k) = midS A wet dy S k := by
        intro k hk
        rw [← hr3 k hk]
        refine peM_cong (fun z h1 h2 => ?_) ?_
        · rw [hμ5, gsI_off (by omega)]
        · rw [hF5.2.2.2.2.1 51 (by omega) (by omega), hF3.2.2.2.2.1 51 (by omega) (by omega)]
      have h895 : ∀ k, k = 738 ∨ k = 739 ∨ k = 737 → μ5.1 k 0 = μ4.1 k 0 := fun k hk => by rw [hμ5, gsI_off (by omega)]
      -- the sums go
      have fin : ∀ (μ6 : gMem), mwFr m μ μ6 → (∀ k, k = 738 ∨ k = 739 ∨ k = 737 → μ6.1 k 0 = μ4.1 k 0) → μ6.1 10 0 48 = v → (∀ k, k < eMen A → ∀ j, ¬ j = 4 → peM μ6 (5 * m + k) j = stp A wet dy S k j) → pt_X10_passes_8 l D d q Γ 0 (nI m) μ6 := by
        intro μ6 hF6 h8 hv6 hr6
        refine bl_X10_passes_8 (by decide) ?_
        rintro _ rfl
        refine passes_zero (μ0 := μ6) hw ?_ 5 0 μ6 (by omega) (fun _ _ _ => rfl) (fun z => by rw [if_neg (by omega)]) rfl
        intro μ7 a1 a2 a3
        have hF7 : mwFr m μ μ7 := by
          refine hF6.tr ⟨fun k j a b => a1 k j (by omega), fun k a b z c => ?_, fun k a b z c => by rw [a1 k 0 (by omega)], a1 747 0 (by omega), fun j a b => by rw [a1 10 0 (by omega)], by rw [a3], fun k j _ _ => by rw [a3]⟩
          by_cases hk : k = 744
          · subst hk
            rw [a2 z, if_neg c]
          · rw [a1 k 0 (by omega)]
        refine hq μ7 hF7 (hold μ7 hF7 ?_ ?_) ?_ ?_
        · rw [a1 737 0 (by omega), h8 737 (by omega)]; exact e3
        · intro k hk
          funext j
          by_cases hj : j = 4
          · subst hj
            rw [pe4, a2, if_pos (by omega), stp, if_pos hdue]
            rfl
          · rw [← hr6 k hk j hj]
            unfold peM
            by_cases hj10 : j = 10
            · rw [if_pos hj10, if_pos hj10]
              unfold bnM
              rw [a1 10 0 (by omega), a1 747 0 (by omega)]
            · rw [if_neg hj10, if_neg hj10]
              unfold PM
              by_cases hj9 : j ≤ 10
              · rw [if_pos hj9, if_pos hj9, a1 (mkk j) 0 (fun z => hj (mkk_inj j (by omega) 4 (by omega) (by rw [z.1]; rfl)))]
              · rw [if_neg hj9, if_neg hj9]
        · intro k hk
          rw [a1 k 0 (by omega), h8 k (by omega)]
          exact h89 k hk
        · rw [a1 10 0 (by omega), hv6, if_pos hdue]
          exact hv2
      rw [e48]
      refine ⟨fun h => ?_, fun h => ?_⟩
      · refine fin μ5 hF5 h895 e48 (fun k hk j hj => ?_)
        rw [hr5 k hk, stp, if_pos hdue]
        unfold potF
        rw [if_neg hj]
        by_cases h8 : j = 8 ∧ ldF (fun z => midS A wet dy S z 4) (eGone A) (eMen A) 0 none = some k
        · exfalso
          rw [hv2, wnr, h8.2] at h
          exact nI_nm1 (by omega) h
        · rw [if_neg h8]
      · obtain ⟨b, hb1, hb2⟩ := onI_rng (show onI (ldF (fun z => midS A wet dy S z 4) (eGone A) (eMen A) 0 none) = v from hv2.symm) h
        have hbm : b < eMen A := by
          have := ldF_rng (fun z => midS A wet dy S z 4) (eGone A) (eMen A) 0 none (fun k hk => by cases hk) b hb1
          omega
        rw [hb2]
        refine ⟨5 * m + b, by omega, ix5 m b, 5 * m + b, by omega, ix5 m b, ?_⟩
        rintro μ6 hμ6
        have hF6 : mwFr m μ μ6 := by rw [hμ6]; exact hF5.put (by omega) (by omega) (by omega) (by omega) _
        refine fin μ6 hF6 (fun k hk => by rw [hμ6, gsI_off (by omega)]; exact h895 k hk) (by rw [hμ6, gsI_off (by omega)]; exact e48) (fun k hk j hj => ?_)
        rw [stp, if_pos hdue]
        unfold potF
        rw [if_neg hj, ← hr5 k hk]
        have h51 : μ6.1 10 0 51 = μ5.1 10 0 51 := by rw [hμ6, gsI_off (by omega)]
        by_cases h8 : j = 8 ∧ ldF (fun z => midS A wet dy S z 4) (eGone A) (eMen A) 0 none = some k
        · obtain ⟨rfl, h9⟩ := h8
          rw [if_pos ⟨rfl, h9⟩]
          rw [hb1] at h9
          cases h9
          show μ6.1 750 0 (5 * m + b) = _
          rw [hμ6, gsI_row]
          show (if 5 * m + b = 5 * m + b then _ else _) = _
          rw [if_pos rfl, hF5.1 707 0 (by omega) (by omega), hT.2.2.2.2.2.1.2.2]
          rfl
        · rw [if_neg h8]
          unfold peM
          by_cases hj10 : j = 10
          · rw [if_pos hj10, if_pos hj10]
            unfold bnM
            rw [h51, hμ6, gsI_off (by omega)]
          · rw [if_neg hj10, if_neg hj10]
            unfold PM
            by_cases hj9 : j ≤ 10
            · rw [if_pos hj9, if_pos hj9, hμ6]
              by_cases hm8 : mkk j = 750
              · have hj8 : j = 8 := mkk_inj j (by omega) 8 (by omega) (by rw [hm8]; rfl)
                subst hj8
                show (gsI μ5 750 0 (5 * m + b) _).1 750 0 (5 * m + k) = μ5.1 750 0 (5 * m + k)
                rw [gsI_row]
                show (if 5 * m + k = 5 * m + b then _ else _) = _
                rw [if_neg (fun z => h8 ⟨rfl, by rw [hb1, show b = k by omega]⟩)]
              · rw [gsI_off (by omega)]
            · rw [if_neg hj9, if_neg hj9]
    · rw [day_mod (by omega) hA.2.1 (by have := hA.2.2.1; omega)] at h
      have hdue : ¬ dueS A dy := h
      refine hq μ3 hF3 (hold μ3 hF3 e3 (fun k hk => by rw [hr3 k hk, stp, if_neg hdue])) h89 ?_
      rw [if_neg hdue, hμ3, gsI_off (by omega), hμ2, gsI_row]
      rfl
  · rw [hT1.1] at h
    exact absurd (nI_le (Nat.le_refl _) (by omega)) h
theorem d_X10_passes {n m e dy : Nat} {A : wEnv} {S : pplS} {b : Int32} (hd : 5 ≤ d) (hw : m < 23) (h0 : wM μ n m A e S dy) (he : e ≤ 2000) (hdy : dy < 100000) (wet : Int32) (hwet : wet = (if byN μ b then wtD (odM μ) (drw (μ.1 739 0 m)) else wtG (odM μ))) :
    Ctr l D d yX10_passes cX10_passes 6 none [.ref (D.2.2 10 0), .int (nI m), .int b] μ (pV (fun μ' => mwFr m μ μ' ∧ wM μ' n m A e (stp A wet dy S) (dy + 1) ∧ μ'.1 739 0 m = (if byN μ b then drw (μ.1 739 0 m) else μ.1 739 0 m) ∧ μ'.1 738 0 m = (if wet = 0 then μ.1 738 0 m else μ.1 738 0 m + 1) ∧ μ'.1 10 0 48 = (if dueS A dy then wnr A wet dy S else -1))) := by
  refine en_X10_passes (fun Γ => bl_X10_passes_0 (by decide) ?_)
  -- from the point where it is known whether it is wet
  have four : ∀ (μ1 : gMem) (x4 : Int32), x4 = wet → mwFr m μ μ1 → (∀ k, ¬ k = 739 → μ1.1 k 0 = μ.1 k 0) → μ1.1 739 0 m = (if byN μ b then drw (μ.1 739 0 m) else μ.1 739 0 m) → pt_X10_passes_4 l D d (fun μ' => mwFr m μ μ' ∧ wM μ' n m A e (stp A wet dy S) (dy + 1) ∧ μ'.1 739 0 m = (if byN μ b then drw (μ.1 739 0 m) else μ.1 739 0 m) ∧ μ'.1 738 0 m = (if wet = 0 then μ.1 738 0 m else μ.1 738 0 m + 1) ∧ μ'.1 10 0 48 = (if dueS A dy then wnr A wet dy S else -1)) Γ 0 (nI m) x4 μ1 := by
    rintro μ1 x4 rfl hF1 hr1 h39
    have five : ∀ v : Int32, v = (if x4 = 0 then 0 else 1) → pt_X10_passes_5 l D d (fun μ' => mwFr m μ μ' ∧ wM μ' n m A e (stp A x4 dy S) (dy + 1) ∧ μ'.1 739 0 m = (if byN μ b then drw (μ.1 739 0 m) else μ.1 739 0 m) ∧ μ'.1 738 0 m = (if x4 = 0 then μ.1 738 0 m else μ.1 738 0 m + 1) ∧ μ'.1 10 0 48 = (if dueS A dy then wnr A x4 dy S else -1)) Γ 0 (nI m) x4 0 (nI m) (μ1.1 738 0 m) v μ1 := by
      intro v hv
      refine bl_X10_passes_5 (by decide) (by decide) ⟨m, hw, rfl, ?_⟩
      rintro μ2 hμ2 _ rfl
      have hF2 : mwFr m μ μ2 := by rw [hμ2]; exact hF1.day (by omega) (by omega) _
      have hk : ∀ k, ¬ k = 738 → ¬ k = 739 → μ2.1 k 0 = μ.1 k 0 := fun k h1 h2 => by rw [hμ2, gsI_off (by omega)]; exact hr1 k h2
      have h38 : μ2.1 738 0 m = (if x4 = 0 then μ.1 738 0 m else μ.1 738 0 m + 1) := by
        rw [hμ2, gsI_row]
        show (if m = m then _ else _) = _
        rw [if_pos rfl, hr1 738 (by omega), hv]
        split
        · exact Int32.add_zero _
        · rfl
      obtain ⟨hT, hA, ⟨hg, hpl, hon⟩, hps, hr0, hS, hdy1⟩ := h0
      have h2 : wM μ2 n m A e S dy := by
        refine ⟨hF2.tM hT, hA, ⟨hF2.gn.trans hg, hF2.pl.trans hpl, hon⟩, fun p hp => ?_, fun k hk2 => ⟨?_, ?_⟩, hS, ?_⟩
        · rw [hF2.pr (by omega) (by omega), hF2.pr (by omega) (by omega)]
          exact hps p hp
        · rw [← (hr0 k hk2).1]
          exact peM_cong (fun z h1 h2 => by rw [hk z (by omega) (by omega)]) (by rw [hk 10 (by omega) (by omega)])
        · rw [hk 747 (by omega) (by omega)]; exact (hr0 k hk2).2
        · rw [hk 737 (by omega) (by omega)]; exact hdy1
      refine passes_six hd hw h2 he hdy ?_
      intro μ' hF' hW' h89 hwin
      refine ⟨hF2.tr hF', hW', ?_, ?_, hwin⟩
      · rw [h89 739 (by omega), hμ2, gsI_off (by omega)]
        exact h39
      · rw [h89 738 (by omega)]
        exact h38
    refine bl_X10_passes_4 (by decide) ⟨m, hw, rfl, fun h => five 0 (by rw [if_pos h]), fun h => five 1 (by rw [if_neg h])⟩
  have two : ∀ (odds x4 : Int32), odds = odM μ → x4 = wtG odds → pt_X10_passes_2 l D d (fun μ' => mwFr m μ μ' ∧ wM μ' n m A e (stp A wet dy S) (dy + 1) ∧ μ'.1 739 0 m = (if byN μ b then drw (μ.1 739 0 m) else μ.1 739 0 m) ∧ μ'.1 738 0 m = (if wet = 0 then μ.1 738 0 m else μ.1 738 0 m + 1) ∧ μ'.1 10 0 48 = (if dueS A dy then wnr A wet dy S else -1)) Γ 0 (nI m) b odds x4 μ := by
    rintro odds x4 rfl rfl
    refine bl_X10_passes_2 (by decide) ?_
    rintro _ rfl
    refine ⟨fun h => ?_, fun h => ⟨fun h2 => ?_, fun h2 => ?_⟩⟩
    · have hn : ¬ byN μ b := fun z => z.1 h
      exact four μ _ (by rw [hwet, if_neg hn]) mwFr.rf (fun _ _ => rfl) (by rw [if_neg hn])
    · have hn : ¬ byN μ b := fun z => z.2 h2
      exact four μ _ (by rw [hwet, if_neg hn]) mwFr.rf (fun _ _ => rfl) (by rw [if_neg hn])
    · have hn : byN μ b := ⟨h, h2⟩
      refine ⟨m, hw, rfl, m, hw, rfl, ?_⟩
      rintro μ1 hμ1
      have e39 : μ1.1 739 0 m = drw (μ.1 739 0 m) := by rw [hμ1, gsI_row]; simp [drw]
      refine ⟨m, hw, rfl, ?_⟩
      rw [e39]
      have hk : ∀ k, ¬ k = 739 → μ1.1 k 0 = μ.1 k 0 := fun k h1 => by rw [hμ1, gsI_off (by omega)]
      have hF : mwFr m μ μ1 := by rw [hμ1]; exact mwFr.rf.day (by omega) (by omega) _
      refine ⟨fun h3 => bl_X10_passes_3 (by decide) ?_, fun h3 => bl_X10_passes_3 (by decide) ?_⟩
      · rintro _ rfl
        exact four μ1 _ (by rw [hwet, if_pos hn, wtD, if_pos h3]) hF hk (by rw [if_pos hn]; exact e39)
      · rintro _ rfl
        exact four μ1 _ (by rw [hwet, if_pos hn, wtD, if_neg h3]) hF hk (by rw [if_pos hn]; exact e39)
  have one : ∀ odds : Int32, odds = odM μ → pt_X10_passes_1 l D d (fun μ' => mwFr m μ μ' ∧ wM μ' n m A e (stp A wet dy S) (dy + 1) ∧ μ'.1 739 0 m = (if byN μ b then drw (μ.1 739 0 m) else μ.1 739 0 m) ∧ μ'.1 738 0 m = (if wet = 0 then μ.1 738 0 m else μ.1 738 0 m + 1) ∧ μ'.1 10 0 48 = (if dueS A dy then wnr A wet dy S else -1)) Γ 0 (nI m) b odds μ := by
    intro odds ho
    refine bl_X10_passes_1 (by decide) ?_
    rintro _ rfl
    refine ⟨fun h => two _ _ ho (by rw [wtG, if_pos h]), fun h => two _ _ ho (by rw [wtG, if_neg h])⟩
  exact ⟨fun h => one _ (by rw [odM, if_neg h]), fun h => one _ (by rw [odM, if_pos h])⟩
end MD2
