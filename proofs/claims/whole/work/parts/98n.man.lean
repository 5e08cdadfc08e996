/-! MAN, the answer: the class's man where nothing is thrown -/
section MAN
variable {l : Launch} {D : gD} {d : Nat} {μ : gMem} {t : Nat} {σ : sV} {x1 x2 : Int32}
theorem c_X9_man (hd : 2 ≤ d) (hc : cSt μ t σ) (hO : sOkS σ) (hE : manE σ x1 x2 = 0) : Ctr l D d yX9_man cX9_man 4 (some .int) [.ref (D.2.2 9 0), .int x1, .int x2] μ (pI (fun v μ' => v = manV σ x1 x2 ∧ μ' = μ)) := by
  have h := hc.nC hO
  have em : eMen (eA σ) = eMen σ.1.1 := rfl
  have hM : isM (eMen σ.1.1) x1 := by
    by_cases hM : isM (eMen σ.1.1) x1
    · exact hM
    · rw [manE, if_neg hM] at hE
      exact absurd hE (by decide)
  have hR : inR x2 0 7 := by
    by_cases hR : inR x2 0 7
    · exact hR
    · rw [manE, if_pos hM, if_neg hR] at hE
      exact absurd hE (by decide)
  have h5 := h.men
  obtain ⟨mA, mB⟩ := isM_ix hM
  have hix : ix x1 < 5 := by omega
  have hrow : μ.1 4 (5 * 0 + ix x1) = σ.2.1.1 (ix x1) := by
    rw [Nat.mul_zero, Nat.zero_add]
    exact h.row hix
  have hp8 : 5 * 0 + ix x1 < 15 := by omega
  have hiw : ¬ iw x1 (0 : Int32) (μ.1 7 (μ.2.2 0) 0 - (1 : Int32)) = 0 := by
    rw [h.1, h.iw, em]
    exact fun hn => hn hM
  have ht2 : μ.2.2 0 < 2 := by rw [h.1]; exact h.2.1
  have hpush : μ.1 516 (μ.2.2 0) (ix x1) = σ.1.1.2.2.2.1.2.2 (ix x1) := by
    rw [h.1]
    exact hc.2.2.2.1.1.2.2.2.2.2.2 _ mB
  have hn1 : ∀ j, manJ x2 = j → ¬ x2 = 2 → μ.1 4 (5 * 0 + ix x1) j = manV σ x1 x2 := by
    intro j hj hn
    rw [hrow, manV, if_neg hn, hj]
  refine Ctr_of (own := RX9) rfl (by decide) (Nat.le_of_ble_eq_true rfl) (fun Γ => ?_)
  refine g_lv (lv' := [(0, .ref (D.2.2 9 0)), (1, .int x1), (2, .int x2)]) rfl ?_
  refine g_aload_n dX9_man_0 rfl ?_
  refine g_iload_n dX9_man_1 rfl ?_
  refine g_cV ca_X9_121 ob_9 (c_X9_isMan (d := 1) (Nat.le_refl _) (by decide) ht2) (by omega) (by decide) (by decide) rfl rfl (Nat.le_of_ble_eq_true rfl) dX9_man_2 (kI (fun v9 μ9 hq9 => ?_))
  obtain ⟨ev9, eμ9⟩ := hq9
  subst ev9
  refine g_mem eμ9 ?_
  refine g_if_ne (tgt := 18) dX9_man_5 (by decide) (fun _ => ?_) (fun hc0 => absurd hc0 hiw)
  refine g_aload_n dX9_man_18 rfl ?_
  refine g_gfR fl_9_38 rfl (by decide) dX9_man_19 ?_
  refine g_gfR fl_9_132 rfl (by decide) dX9_man_22 ?_
  refine g_iload_n dX9_man_25 rfl ?_
  refine g_aald (ix x1) (by decide) hix mA dX9_man_26 ?_
  refine g_astore_n dX9_man_27 (by decide) (g_lv (lv' := [(3, .ref (D.2.2 4 (5 * 0 + ix x1))), (0, .ref (D.2.2 9 0)), (1, .int x1), (2, .int x2)]) rfl ?_)
  refine g_iload_n dX9_man_28 rfl ?_
  by_cases hx0 : x2 = (0 : Int32)
  · refine g_tableIn (off := 47) (tgt := 76) dX9_man_29 (by rw [hx0]; decide) (by rw [hx0]; decide) (by rw [hx0]; rfl) (by decide) ?_
    refine g_aload_n dX9_man_76 rfl ?_
    refine g_gfI fi_9_136 hp8 dX9_man_77 ?_
    exact g_iret dX9_man_80 rfl rfl ⟨_, rfl, hn1 0 (by rw [hx0]; decide) (by rw [hx0]; decide), rfl⟩
  by_cases hx1 : x2 = (1 : Int32)
  · refine g_tableIn (off := 52) (tgt := 81) dX9_man_29 (by rw [hx1]; decide) (by rw [hx1]; decide) (by rw [hx1]; rfl) (by decide) ?_
    refine g_aload_n dX9_man_81 rfl ?_
    refine g_gfI fi_9_141 hp8 dX9_man_82 ?_
    exact g_iret dX9_man_85 rfl rfl ⟨_, rfl, hn1 1 (by rw [hx1]; decide) (by rw [hx1]; decide), rfl⟩
  by_cases hx2 : x2 = (2 : Int32)
  · refine g_tableIn (off := 57) (tgt := 86) dX9_man_29 (by rw [hx2]; decide) (by rw [hx2]; decide) (by rw [hx2]; rfl) (by decide) ?_
    refine g_aload_n dX9_man_86 rfl ?_
    refine g_gfR fl_9_28 rfl (by decide) dX9_man_87 ?_
    refine g_gfR fl_9_144 rfl ht2 dX9_man_90 ?_
    refine g_iload_n dX9_man_93 rfl ?_
    refine g_iald (ix x1) ht2 rfl hix (by decide) mA dX9_man_94 ?_
    exact g_iret dX9_man_95 rfl rfl ⟨_, rfl, by rw [hpush, manV, if_pos hx2], rfl⟩
  by_cases hx3 : x2 = (3 : Int32)
  · refine g_tableIn (off := 67) (tgt := 96) dX9_man_29 (by rw [hx3]; decide) (by rw [hx3]; decide) (by rw [hx3]; rfl) (by decide) ?_
    refine g_aload_n dX9_man_96 rfl ?_
    refine g_gfI fi_9_147 hp8 dX9_man_97 ?_
    exact g_iret dX9_man_100 rfl rfl ⟨_, rfl, hn1 2 (by rw [hx3]; decide) (by rw [hx3]; decide), rfl⟩
  by_cases hx4 : x2 = (4 : Int32)
  · refine g_tableIn (off := 72) (tgt := 101) dX9_man_29 (by rw [hx4]; decide) (by rw [hx4]; decide) (by rw [hx4]; rfl) (by decide) ?_
    refine g_aload_n dX9_man_101 rfl ?_
    refine g_gfI fi_9_150 hp8 dX9_man_102 ?_
    exact g_iret dX9_man_105 rfl rfl ⟨_, rfl, hn1 3 (by rw [hx4]; decide) (by rw [hx4]; decide), rfl⟩
  by_cases hx5 : x2 = (5 : Int32)
  · refine g_tableIn (off := 77) (tgt := 106) dX9_man_29 (by rw [hx5]; decide) (by rw [hx5]; decide) (by rw [hx5]; rfl) (by decide) ?_
    refine g_aload_n dX9_man_106 rfl ?_
    refine g_gfI fi_9_153 hp8 dX9_man_107 ?_
    exact g_iret dX9_man_110 rfl rfl ⟨_, rfl, hn1 4 (by rw [hx5]; decide) (by rw [hx5]; decide), rfl⟩
  by_cases hx6 : x2 = (6 : Int32)
  · refine g_tableIn (off := 82) (tgt := 111) dX9_man_29 (by rw [hx6]; decide) (by rw [hx6]; decide) (by rw [hx6]; rfl) (by decide) ?_
    refine g_aload_n dX9_man_111 rfl ?_
    refine g_gfI fi_9_156 hp8 dX9_man_112 ?_
    exact g_iret dX9_man_115 rfl rfl ⟨_, rfl, hn1 5 (by rw [hx6]; decide) (by rw [hx6]; decide), rfl⟩
  by_cases hx7 : x2 = (7 : Int32)
  · refine g_tableIn (off := 87) (tgt := 116) dX9_man_29 (by rw [hx7]; decide) (by rw [hx7]; decide) (by rw [hx7]; rfl) (by decide) ?_
    refine g_aload_n dX9_man_116 rfl ?_
    refine g_gfI fi_9_159 hp8 dX9_man_117 ?_
    exact g_iret dX9_man_120 rfl rfl ⟨_, rfl, hn1 6 (by rw [hx7]; decide) (by rw [hx7]; decide), rfl⟩
  exfalso
  have hrA := hR.1
  have hrB := hR.2
  have hy0 := lv_neT hx0 (a := 0) rfl
  have hy1 := lv_neT hx1 (a := 1) rfl
  have hy2 := lv_neT hx2 (a := 2) rfl
  have hy3 := lv_neT hx3 (a := 3) rfl
  have hy4 := lv_neT hx4 (a := 4) rfl
  have hy5 := lv_neT hx5 (a := 5) rfl
  have hy6 := lv_neT hx6 (a := 6) rfl
  have hy7 := lv_neT hx7 (a := 7) rfl
  omega
end MAN
