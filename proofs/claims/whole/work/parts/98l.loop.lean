/-! THE LOOP of the law: it ends with true, if case man does -/
section LLP
variable {l : Launch} {D : gD} {o b L : Nat} {xs : Nat → Int32} {Γ : lC} {kc ks j : Nat} {μ : gMem} {g : Nat → Int64}
theorem l_next (kk : LG l D o b L xs Γ kc ks 23 (lvL D o b (nI (6 * (j + 1)))) [] μ g) : LG l D o b L xs Γ kc ks 1700 (lvL D o b (nI (6 * j))) [] μ g := by
  refine l_iinc dL_law_1700 rfl (by omega) ?_
  refine l_goto (tgt := 23) dL_law_1703 rfl ?_
  have he : nI (6 * j) + Int32.ofInt 6 = nI (6 * (j + 1)) := nI_add (6 * j) 6
  rw [he]
  exact kk
/-- what case man has to do, with the cells and slots that it may take -/
def ManL (l : Launch) (D : gD) (o b L : Nat) (xs : Nat → Int32) (Γ : lC) (dk ds : Nat) : Prop := ∀ (kc ks j : Nat) (μ : gMem) (g : Nat → Int64), kc + dk ≤ 601024 → ks + ds ≤ 7293034 → 6 * j + 6 ≤ L → invS μ → (∀ μ' g', invS μ' → LG l D o b L xs Γ (kc + dk) (ks + ds) 1700 (lvL D o b (nI (6 * j))) [] μ' g') → LG l D o b L xs Γ kc ks 376 (lvL D o b (nI (6 * j))) [] μ g
theorem l_switch {dk ds : Nat} (hm : ManL l D o b L xs Γ dk ds) (hk : kc + dk ≤ 601024) (hs : ks + ds ≤ 7293034) (hj : 6 * j + 6 ≤ L) (hI : invS μ) {x : Int32} (kk : ∀ μ' g', invS μ' → LG l D o b L xs Γ (kc + dk) (ks + ds) 1700 (lvL D o b (nI (6 * j))) [] μ' g') : LG l D o b L xs Γ kc ks 40 (lvL D o b (nI (6 * j))) [.int x] μ g := by
  have hk0 : kc ≤ 601024 := by omega
  have hs0 : ks ≤ 7293034 := by omega
  have kk0 : ∀ μ', invS μ' → LG l D o b L xs Γ kc ks 1700 (lvL D o b (nI (6 * j))) [] μ' g := fun μ' hI' => l_widen (by omega) (by omega) (kk μ' g hI')
  by_cases hout : x.toInt < 0 ∨ 39 < x.toInt
  · exact l_tableOut (tgt := 1700) dL_law_40 hout rfl (kk0 μ hI)
  have hlo : ¬ x.toInt < 0 := fun h => hout (Or.inl h)
  have hhi : ¬ 39 < x.toInt := fun h => hout (Or.inr h)
  obtain ⟨n, hn, hz⟩ : ∃ n : Nat, n < 40 ∧ x.toInt = (n : Int) := ⟨x.toInt.toNat, by omega, by omega⟩
  match n, hn, hz with
  | 0, _, hz => exact l_tableIn (off := 176) (tgt := 216) dL_law_40 hlo hhi (by rw [hz]; rfl) rfl (lc_0 hk0 hs0 hj hI kk0)
  | 1, _, hz => exact l_tableIn (off := 249) (tgt := 289) dL_law_40 hlo hhi (by rw [hz]; rfl) rfl (lc_1 hk0 hs0 hj hI kk0)
  | 2, _, hz => exact l_tableIn (off := 274) (tgt := 314) dL_law_40 hlo hhi (by rw [hz]; rfl) rfl (lc_2 hk0 hs0 hj hI kk0)
  | 3, _, hz => exact l_tableIn (off := 299) (tgt := 339) dL_law_40 hlo hhi (by rw [hz]; rfl) rfl (lc_3 hk0 hs0 hj hI kk0)
  | 4, _, hz => exact l_tableIn (off := 336) (tgt := 376) dL_law_40 hlo hhi (by rw [hz]; rfl) rfl (hm kc ks j μ g hk hs hj hI kk)
  | 5, _, hz => exact l_tableIn (off := 404) (tgt := 444) dL_law_40 hlo hhi (by rw [hz]; rfl) rfl (lc_5 hk0 hs0 hj hI kk0)
  | 6, _, hz => exact l_tableIn (off := 441) (tgt := 481) dL_law_40 hlo hhi (by rw [hz]; rfl) rfl (lc_6 hk0 hs0 hj hI kk0)
  | 7, _, hz => exact l_tableIn (off := 478) (tgt := 518) dL_law_40 hlo hhi (by rw [hz]; rfl) rfl (lc_7 hk0 hs0 hj hI kk0)
  | 8, _, hz => exact l_tableIn (off := 515) (tgt := 555) dL_law_40 hlo hhi (by rw [hz]; rfl) rfl (lc_8 hk0 hs0 hj hI kk0)
  | 9, _, hz => exact l_tableIn (off := 553) (tgt := 593) dL_law_40 hlo hhi (by rw [hz]; rfl) rfl (lc_9 hk0 hs0 hj hI kk0)
  | 10, _, hz => exact l_tableIn (off := 606) (tgt := 646) dL_law_40 hlo hhi (by rw [hz]; rfl) rfl (lc_10 hk0 hs0 hj hI kk0)
  | 11, _, hz => exact l_tableIn (off := 643) (tgt := 683) dL_law_40 hlo hhi (by rw [hz]; rfl) rfl (lc_11 hk0 hs0 hj hI kk0)
  | 12, _, hz => exact l_tableIn (off := 692) (tgt := 732) dL_law_40 hlo hhi (by rw [hz]; rfl) rfl (lc_12 hk0 hs0 hj hI kk0)
  | 13, _, hz => exact l_tableIn (off := 729) (tgt := 769) dL_law_40 hlo hhi (by rw [hz]; rfl) rfl (lc_13 hk0 hs0 hj hI kk0)
  | 14, _, hz => exact l_tableIn (off := 754) (tgt := 794) dL_law_40 hlo hhi (by rw [hz]; rfl) rfl (lc_14 hk0 hs0 hj hI kk0)
  | 15, _, hz => exact l_tableIn (off := 803) (tgt := 843) dL_law_40 hlo hhi (by rw [hz]; rfl) rfl (lc_15 hk0 hs0 hj hI kk0)
  | 16, _, hz => exact l_tableIn (off := 840) (tgt := 880) dL_law_40 hlo hhi (by rw [hz]; rfl) rfl (lc_16 hk0 hs0 hj hI kk0)
  | 17, _, hz => exact l_tableIn (off := 877) (tgt := 917) dL_law_40 hlo hhi (by rw [hz]; rfl) rfl (lc_17 hk0 hs0 hj hI kk0)
  | 18, _, hz => exact l_tableIn (off := 926) (tgt := 966) dL_law_40 hlo hhi (by rw [hz]; rfl) rfl (lc_18 hk0 hs0 hj hI kk0)
  | 19, _, hz => exact l_tableIn (off := 963) (tgt := 1003) dL_law_40 hlo hhi (by rw [hz]; rfl) rfl (lc_19 hk0 hs0 hj hI kk0)
  | 20, _, hz => exact l_tableIn (off := 976) (tgt := 1016) dL_law_40 hlo hhi (by rw [hz]; rfl) rfl (lc_20 hk0 hs0 hj hI kk0)
  | 21, _, hz => exact l_tableIn (off := 1001) (tgt := 1041) dL_law_40 hlo hhi (by rw [hz]; rfl) rfl (lc_21 hk0 hs0 hj hI kk0)
  | 22, _, hz => exact l_tableIn (off := 1026) (tgt := 1066) dL_law_40 hlo hhi (by rw [hz]; rfl) rfl (lc_22 hk0 hs0 hj hI kk0)
  | 23, _, hz => exact l_tableIn (off := 1063) (tgt := 1103) dL_law_40 hlo hhi (by rw [hz]; rfl) rfl (lc_23 hk0 hs0 hj hI kk0)
  | 24, _, hz => exact l_tableIn (off := 1112) (tgt := 1152) dL_law_40 hlo hhi (by rw [hz]; rfl) rfl (lc_24 hk0 hs0 hj hI kk0)
  | 25, _, hz => exact l_tableIn (off := 1137) (tgt := 1177) dL_law_40 hlo hhi (by rw [hz]; rfl) rfl (lc_25 hk0 hs0 hj hI kk0)
  | 26, _, hz => exact l_tableIn (off := 1174) (tgt := 1214) dL_law_40 hlo hhi (by rw [hz]; rfl) rfl (lc_26 hk0 hs0 hj hI kk0)
  | 27, _, hz => exact l_tableIn (off := 1223) (tgt := 1263) dL_law_40 hlo hhi (by rw [hz]; rfl) rfl (lc_27 hk0 hs0 hj hI kk0)
  | 28, _, hz => exact l_tableIn (off := 1260) (tgt := 1300) dL_law_40 hlo hhi (by rw [hz]; rfl) rfl (lc_28 hk0 hs0 hj hI kk0)
  | 29, _, hz => exact l_tableIn (off := 1285) (tgt := 1325) dL_law_40 hlo hhi (by rw [hz]; rfl) rfl (lc_29 hk0 hs0 hj hI kk0)
  | 30, _, hz => exact l_tableIn (off := 1322) (tgt := 1362) dL_law_40 hlo hhi (by rw [hz]; rfl) rfl (lc_30 hk0 hs0 hj hI kk0)
  | 31, _, hz => exact l_tableIn (off := 1399) (tgt := 1439) dL_law_40 hlo hhi (by rw [hz]; rfl) rfl (lc_31 hk0 hs0 hj hI kk0)
  | 32, _, hz => exact l_tableIn (off := 1424) (tgt := 1464) dL_law_40 hlo hhi (by rw [hz]; rfl) rfl (lc_32 hk0 hs0 hj hI kk0)
  | 33, _, hz => exact l_tableIn (off := 1449) (tgt := 1489) dL_law_40 hlo hhi (by rw [hz]; rfl) rfl (lc_33 hk0 hs0 hj hI kk0)
  | 34, _, hz => exact l_tableIn (off := 1486) (tgt := 1526) dL_law_40 hlo hhi (by rw [hz]; rfl) rfl (lc_34 hk0 hs0 hj hI kk0)
  | 35, _, hz => exact l_tableIn (off := 1547) (tgt := 1587) dL_law_40 hlo hhi (by rw [hz]; rfl) rfl (lc_35 hk0 hs0 hj hI kk0)
  | 36, _, hz => exact l_tableIn (off := 1596) (tgt := 1636) dL_law_40 hlo hhi (by rw [hz]; rfl) rfl (lc_36 hk0 hs0 hj hI kk0)
  | 37, _, hz => exact l_tableIn (off := 1609) (tgt := 1649) dL_law_40 hlo hhi (by rw [hz]; rfl) rfl (lc_37 hk0 hs0 hj hI kk0)
  | 38, _, hz => exact l_tableIn (off := 1622) (tgt := 1662) dL_law_40 hlo hhi (by rw [hz]; rfl) rfl (lc_38 hk0 hs0 hj hI kk0)
  | 39, _, hz => exact l_tableIn (off := 1635) (tgt := 1675) dL_law_40 hlo hhi (by rw [hz]; rfl) rfl (lc_39 hk0 hs0 hj hI kk0)
  | (q9 + 40), hn, _ => exact absurd hn (by omega)
theorem l_loop {dk ds kz sz : Nat} (hL : L ≤ 3072) (hm : ManL l D o b L xs Γ dk ds) (hk : kz + 512 * dk ≤ 601024) (hs : sz + 512 * ds ≤ 7293034) : ∀ (n j : Nat) (μ : gMem) (g : Nat → Int64), L ≤ 6 * (j + n) + 5 → 6 * j ≤ L → invS μ → LG l D o b L xs Γ (kz + j * dk) (sz + j * ds) 23 (lvL D o b (nI (6 * j))) [] μ g := by
  intro n
  induction n with
  | zero =>
    intro j μ g hn hj hI
    have hj5 : j ≤ 512 := by omega
    have hdk := Nat.mul_le_mul_right dk hj5
    have hds := Nat.mul_le_mul_right ds hj5
    refine l_iload dL_law_23 rfl ?_
    refine l_aload_n dL_law_25 rfl ?_
    refine l_slen dL_law_26 ?_
    refine l_bipush 6 dL_law_27 rfl ?_
    refine l_isub dL_law_29 ?_
    refine l_icmp_gt (tgt := 1706) dL_law_30 rfl (fun _ => ?_) (fun hc => absurd ?_ hc)
    · refine l_iconst 1 dL_law_1706 rfl ?_
      exact l_end rfl (by omega) (by omega) dL_law_1707
    · rw [Int32.lt_iff_toInt_lt, nI_toInt (by omega), fb_subI (by rw [nI_toInt (by omega)]; show _ ≤ (L : Int) - 6; omega) (by rw [nI_toInt (by omega)]; show (L : Int) - 6 < _; omega), nI_toInt (by omega)]
      show (L : Int) - 6 < ((6 * j : Nat) : Int)
      omega
  | succ n ih =>
    intro j μ g hn hj hI
    have hj5 : j ≤ 512 := by omega
    have hdk := Nat.mul_le_mul_right dk hj5
    have hds := Nat.mul_le_mul_right ds hj5
    refine l_iload dL_law_23 rfl ?_
    refine l_aload_n dL_law_25 rfl ?_
    refine l_slen dL_law_26 ?_
    refine l_bipush 6 dL_law_27 rfl ?_
    refine l_isub dL_law_29 ?_
    refine l_icmp_gt (tgt := 1706) dL_law_30 rfl (fun _ => ?_) (fun hc => ?_)
    · refine l_iconst 1 dL_law_1706 rfl ?_
      exact l_end rfl (by omega) (by omega) dL_law_1707
    · have hj6 : 6 * j + 6 ≤ L := by
        rw [Int32.lt_iff_toInt_lt, nI_toInt (by omega), fb_subI (by rw [nI_toInt (by omega)]; show _ ≤ (L : Int) - 6; omega) (by rw [nI_toInt (by omega)]; show (L : Int) - 6 < _; omega), nI_toInt (by omega)] at hc
        have hc : ¬ (L : Int) - 6 < ((6 * j : Nat) : Int) := hc
        omega
      have hj51 : j + 1 ≤ 512 := by omega
      have hdk1 := Nat.mul_le_mul_right dk hj51
      have hds1 := Nat.mul_le_mul_right ds hj51
      rw [Nat.add_mul, Nat.one_mul] at hdk1 hds1
      refine l_aload_n dL_law_33 rfl ?_
      refine l_iload dL_law_34 rfl ?_
      refine l_sld (n := 6 * j) rfl (by omega) dL_law_36 ?_
      refine l_bipush 63 dL_law_37 rfl ?_
      refine l_iand dL_law_39 ?_
      refine l_switch hm (by omega) (by omega) hj6 hI (fun μ' g' hI' => l_next ?_)
      have hih := ih (j + 1) μ' g' (by omega) (by omega) hI'
      rw [Nat.add_mul, Nat.one_mul, Nat.add_mul, Nat.one_mul, ← Nat.add_assoc, ← Nat.add_assoc] at hih
      exact hih
end LLP
