/-! the reference's text, whole -/
section MZ
variable {l : Launch} {D : gD} {d : Nat} {μ : gMem} {σ : sV} {x1 : Int32}
theorem c_X10_text (hd : 656 ≤ d) (hWd : WordC l D lgW) (h : mSt μ σ) (hO : sOkS σ) : Ctr l D d yX10_text cX10_text 3 (some .int) [.ref (D.2.2 10 0), .int x1] μ (pI (fun v μ' => v = txV σ x1 ∧ cKp μ μ' ∧ ∀ Gf, mSt μ' (txS σ x1 Gf) ∧ sOkS (txS σ x1 Gf))) := by
  have h7 := hO.2.2.2.2.2.1
  have hb := hO.2.2.2.2.2.2
  refine en_X10_text (fun Γ => bl_X10_text_0 (by decide) ?_)
  rintro μa ea
  obtain ⟨h1, hK⟩ : mSt μa σ ∧ cKp μ μa := by rw [ea]; exact h.th hO
  clear ea
  have hT := h1.2.2.2.2.2.2
  have hx0 : x1 < 0 ↔ ¬ 0 ≤ x1.toInt := by
    rw [Int32.lt_iff_toInt_lt, show (0 : Int32).toInt = 0 from rfl]
    omega
  have non : ¬ txP σ x1 → (-2 : Int32) = txV σ x1 ∧ cKp μ μa ∧ ∀ Gf, mSt μa (txS σ x1 Gf) ∧ sOkS (txS σ x1 Gf) := by
    intro z
    refine ⟨by rw [txV, if_neg z], hK, fun Gf => ?_⟩
    rw [txS, if_neg z]
    exact ⟨h1, hO⟩
  rw [hx0]
  refine ⟨fun z => non (fun w => z w.1), fun z => ?_⟩
  have z := Decidable.not_not.mp z
  have en := ix_nI z
  have hx31 : ix x1 < 2 ^ 31 := by
    have := fb_rng x1
    unfold ix
    omega
  have hle : x1 ≤ μa.1 10 0 2 ↔ ix x1 ≤ σ.2.2.2.2.2.1 := by
    rw [hT.1, show (x1 ≤ nI σ.2.2.2.2.2.1) = (nI (ix x1) ≤ nI σ.2.2.2.2.2.1) by rw [← en], nI_leI hx31 (by omega)]
  rw [hle]
  refine ⟨fun zl => ?_, fun zl => non (fun w => zl w.2)⟩
  have hP : txP σ x1 := ⟨z, zl⟩
  have hR : txV σ x1 = txA (txR lgW (xtpB σ) (ix x1)) ∧ ∀ Gf, txS σ x1 Gf = txO σ Gf (txR lgW (xtpB σ) (ix x1)) := ⟨by rw [txV, if_pos hP], fun Gf => by rw [txS, if_pos hP]⟩
  rintro μ4 e4 μ5 e5 μ6 e6 μ7 e7 μ8 e8 _ rfl
  have o8 : ∀ k j, ¬ (k = 10 ∧ j = 0) → μ8.1 k j = μa.1 k j := fun k j hk => by rw [e8, gsI_off (by omega), e7, gsI_off (by omega), e6, gsI_off (by omega), e5, gsI_off (by omega), e4, gsI_off (by omega)]
  have s19 : μ8.1 10 0 19 = nI (ix x1) := by rw [e8, gsI_at, if_neg (by omega), e7, gsI_at, if_neg (by omega), e6, gsI_at, if_neg (by omega), e5, gsI_at, if_neg (by omega), e4, gsI_s]; exact en
  have s2 : μ8.1 10 0 2 = 0 := by rw [e8, gsI_at, if_neg (by omega), e7, gsI_at, if_neg (by omega), e6, gsI_at, if_neg (by omega), e5, gsI_s]
  have s20 : μ8.1 10 0 20 = nI 0 := by rw [e8, gsI_at, if_neg (by omega), e7, gsI_at, if_neg (by omega), e6, gsI_s]; rfl
  have s24 : μ8.1 10 0 24 = 0 := by rw [e8, gsI_at, if_neg (by omega), e7, gsI_s]
  have s25 : μ8.1 10 0 25 = -1 := by rw [e8, gsI_s]
  have G8 : gmF μa μ8 := by rw [e8, e7, e6, e5, e4]; exact ((((gmF.rf.p10 (by omega)).p10 (by omega)).p10 (by omega)).p10 (by omega)).p10 (by omega)
  clear e4 e5 e6 e7 e8
  refine text_1 (μa := μ8) (by omega) ?_ 10 0 μ8 (by omega) (fun _ _ _ => rfl) (fun _ _ => rfl) rfl (fun z hz => absurd hz (Nat.not_lt_zero _))
  intro μb ba bb bc bz
  refine text_3 (μa := μb) ?_ 30 0 μb (by omega) (fun _ _ _ => rfl) (fun _ _ => rfl) rfl (fun z hz => absurd hz (Nat.not_lt_zero _))
  intro μc ca cb cc cz
  refine text_4 (μa := μc) ?_ 3 0 μc (by omega) (fun _ _ _ => rfl) (fun _ _ => ⟨rfl, rfl⟩) rfl (fun z hz => absurd hz (Nat.not_lt_zero _))
  intro μd da db dc dz
  have Gd : gmF μ8 μd := by
    refine ⟨fun k j hk => by rw [da k j (by omega), ca k j (by omega), ba k j (by omega)], fun j _ => by rw [da 10 0 (by omega), ca 10 0 (by omega), ba 10 0 (by omega)], fun k k1 k2 z hz => ?_, by rw [dc, cc, bc]⟩
    by_cases e7 : k = 707
    · subst e7
      rw [da 707 0 (by omega), ca 707 0 (by omega)]
      exact bb z hz
    by_cases e16 : k = 716
    · subst e16
      rw [da 716 0 (by omega), cb z hz, ba 716 0 (by omega)]
    by_cases e17 : k = 717
    · subst e17
      rw [(db z hz).1, ca 717 0 (by omega), ba 717 0 (by omega)]
    by_cases e18 : k = 718
    · subst e18
      rw [(db z hz).2, ca 718 0 (by omega), ba 718 0 (by omega)]
    rw [da k 0 (by omega), ca k 0 (by omega), ba k 0 (by omega)]
  have d10 : μd.1 10 0 = μ8.1 10 0 := by rw [da 10 0 (by omega), ca 10 0 (by omega), ba 10 0 (by omega)]
  have d707 : ∀ z, z < 10 → μd.1 707 0 (10 + z) = if z = 4 then 7 else 0 := fun z hz => by rw [da 707 0 (by omega), ca 707 0 (by omega)]; exact bz z hz
  have d716 : ∀ z, z < 30 → μd.1 716 0 (30 + z) = 0 := fun z hz => by rw [da 716 0 (by omega)]; exact cz z hz
  have d705 : μd.1 705 0 = μa.1 705 0 := by rw [da 705 0 (by omega), ca 705 0 (by omega), ba 705 0 (by omega), o8 705 0 (by omega)]
  refine bl_X10_text_4 (by decide) ⟨fun _ => ?_, fun w => absurd (by decide) w⟩
  rintro μe ee μf ef μg eg μh eh
  have oh : ∀ k j, ¬ (k = 10 ∧ j = 0) → μh.1 k j = μd.1 k j := fun k j hk => by rw [eh, gsI_off (by omega), eg, gsI_off (by omega), ef, gsI_off (by omega), ee, gsI_off (by omega)]
  have gh : ∀ j, ¬ j = 17 → ¬ j = 18 → ¬ j = 28 → ¬ j = 29 → μh.1 10 0 j = μ8.1 10 0 j := fun j a1 a2 a3 a4 => by rw [eh, gsI_at, if_neg (by omega), eg, gsI_at, if_neg (by omega), ef, gsI_at, if_neg (by omega), ee, gsI_at, if_neg (by omega), d10]
  have t17 : μh.1 10 0 17 = 0 := by rw [eh, gsI_at, if_neg (by omega), eg, gsI_at, if_neg (by omega), ef, gsI_at, if_neg (by omega), ee, gsI_s]
  have t18 : μh.1 10 0 18 = 0 := by rw [eh, gsI_at, if_neg (by omega), eg, gsI_at, if_neg (by omega), ef, gsI_s]
  have t28 : μh.1 10 0 28 = 0 := by rw [eh, gsI_at, if_neg (by omega), eg, gsI_s]
  have t29 : μh.1 10 0 29 = 0 := by rw [eh, gsI_s]
  have Gh : gmF μd μh := by rw [eh, eg, ef, ee]; exact (((gmF.rf.p10 (by omega)).p10 (by omega)).p10 (by omega)).p10 (by omega)
  clear ee ef eg eh
  have TK : tkM (xtpB σ) (ix x1) μh := by
    refine ⟨by rw [gh 19 (by omega) (by omega) (by omega) (by omega)]; exact s19, by omega, fun k hk => ?_⟩
    have hk2 : k < σ.2.2.2.2.2.1 := by omega
    have hr := hb k hk2
    refine ⟨?_, ?_⟩
    · show _ = nI (ix (σ.2.2.2.2.2.2.1 k))
      rw [oh 705 0 (by omega), d705, ← ix_nI (x := σ.2.2.2.2.2.2.1 k) hr.1]
      exact hT.2.1 k hk2
    · show ix (σ.2.2.2.2.2.2.1 k) < 256
      have := hr.2
      unfold ix
      omega
  refine ⟨2, _, by omega, c_X10_token (a := 0) (by omega) hWd TK (Nat.zero_le _) (by rw [gh 20 (by omega) (by omega) (by omega) (by omega)]; exact s20), ?_⟩
  rintro μi ⟨Ni, ai⟩
  have ri : rlM lgW (xtpB σ) (ix x1) μi (tkP (xtpB σ) (ix x1) 0) := ⟨TK.of Ni, by rw [Ni.2.1 24 (by omega), gh 24 (by omega) (by omega) (by omega) (by omega)]; exact s24, runE_le (Nat.zero_le _), ai⟩
  have pi : ∀ k, ¬ k = 10 → μi.1 k 0 = μd.1 k 0 := fun k hk => by rw [Ni.1 k 0 (by omega), oh k 0 (by omega)]
  have gi : ∀ j, ¬ (20 ≤ j ∧ j ≤ 23) → μi.1 10 0 j = μh.1 10 0 j := fun j hj => Ni.2.1 j hj
  have Mi : dfM μi df0 := by
    refine ⟨⟨by rw [pi 707 (by omega)]; exact d707 0 (by omega), fun k hk => absurd hk (Nat.not_lt_zero _)⟩, ⟨by rw [pi 707 (by omega)]; exact d707 1 (by omega), fun k hk => absurd hk (Nat.not_lt_zero _)⟩, ⟨by rw [pi 707 (by omega)]; exact d707 2 (by omega), fun z hz => by rw [pi 716 (by omega)]; exact d716 z hz⟩, fun j j1 j2 => by rw [pi 707 (by omega)]; exact d707 j (by omega), ⟨by rw [pi 707 (by omega)]; exact d707 9 (by omega), fun i hi => absurd hi (Nat.not_lt_zero _), fun r hr => by rw [pi 717 (by omega), pi 718 (by omega)]; exact dz r hr, by rw [gi 28 (by omega)]; exact t28, by rw [gi 29 (by omega)]; exact t29⟩, 0, by decide, by rw [gi 17 (by omega)]; exact t17, fun w _ _ => Nat.zero_testBit w, fun r _ => Nat.zero_testBit _⟩
  refine text_5 (μ0 := μi) (lg := lgW) (tb := xtpB σ) (L := ix x1) (R := txR lgW (xtpB σ) (ix x1)) (by omega) hWd ?_ (ix x1) (tkP (xtpB σ) (ix x1) 0) 0 df0 μi (by omega) lmF.rf ri Mi df0_ok (by rw [gi 18 (by omega)]; exact t18) rfl
  intro ν hF hH
  refine text_6 (by omega) h1 hO hK (G8.tr (Gd.tr (Gh.tr (Ni.w.m.g.tr hF.g)))) ?_ (fun w => ?_) hR hH
  · rw [hF.2.1 2 (by omega), gi 2 (by omega), gh 2 (by omega) (by omega) (by omega) (by omega)]
    exact s2
  · rw [(hF.2.2.2.2 w).2, gi 25 (by omega), gh 25 (by omega) (by omega) (by omega) (by omega)]
    exact s25
end MZ
