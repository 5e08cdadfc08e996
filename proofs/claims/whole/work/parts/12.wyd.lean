def pt_X10_man_0 (l : Launch) (D : gD) (d : Nat) (q : Int32 → gMem → Prop) (Γ : gC) (r0 : Nat) (x1 : Int32) (x2 : Int32) (μ : gMem) : Prop := G l D RX10 cX10_man 3 (some .int) d (pI q) Γ 0 [(0, .ref (D.2.2 10 r0)), (1, .int x1), (2, .int x2)] [] μ
def pt_X10_man_1 (l : Launch) (D : gD) (d : Nat) (q : Int32 → gMem → Prop) (Γ : gC) (r0 : Nat) (x1 : Int32) (x2 : Int32) (rs0 : Nat) (μ : gMem) : Prop := G l D RX10 cX10_man 3 (some .int) d (pI q) Γ 23 [(0, .ref (D.2.2 10 r0)), (1, .int x1), (2, .int x2)] [.ref (D.2.2 10 rs0)] μ
def pt_X10_man_2 (l : Launch) (D : gD) (d : Nat) (q : Int32 → gMem → Prop) (Γ : gC) (r0 : Nat) (x1 : Int32) (x2 : Int32) (rs0 : Nat) (xs1 : Int32) (μ : gMem) : Prop := G l D RX10 cX10_man 3 (some .int) d (pI q) Γ 28 [(0, .ref (D.2.2 10 r0)), (1, .int x1), (2, .int x2)] [.int xs1, .ref (D.2.2 10 rs0)] μ
set_option maxRecDepth 20000 in
set_option maxHeartbeats 4000000 in
theorem bl_X10_man_0 {l : Launch} {D : gD} {d : Nat} {q : Int32 → gMem → Prop} {Γ : gC} {r0 : Nat} {x1 : Int32} {x2 : Int32} {μ : gMem} (hr0 : r0 < 1) (h : (0 < d) ∧ (((¬ (isn x1 (μ.1 707 r0 0)) = 0) → ((x2 < 0) → pt_X10_man_1 l D d q Γ r0 x1 x2 r0 μ) ∧ ((¬ x2 < 0) → ((x2 ≤ (7 : Int32)) → pt_X10_man_2 l D d q Γ r0 x1 x2 r0 (0 : Int32) μ) ∧ ((¬ x2 ≤ (7 : Int32)) → pt_X10_man_1 l D d q Γ r0 x1 x2 r0 μ))) ∧ (((isn x1 (μ.1 707 r0 0)) = 0) → pt_X10_man_2 l D d q Γ r0 x1 x2 r0 (1 : Int32) μ))) : pt_X10_man_0 l D d q Γ r0 x1 x2 μ := by
  unfold pt_X10_man_0
  refine g_aload_n dX10_man_0 rfl ?_
  refine g_aload_n dX10_man_1 rfl ?_
  refine g_iload_n dX10_man_2 rfl ?_
  obtain ⟨hd_1, h⟩ := h
  refine g_cV ca_X10_394 ob_10 (c_X10_isMan (d := 0) (Nat.le_refl _) hr0 ) hd_1 (by decide) hr0 rfl rfl (by first | exact Nat.le_of_ble_eq_true rfl | decide) dX10_man_3 (kI (fun v_2 μ_3 hq_4 => ?_))
  obtain ⟨ev_2, eμ_3⟩ := hq_4
  subst ev_2
  refine g_mem eμ_3 ?_
  refine g_if_ne (tgt := 13) dX10_man_6 (by decide) (fun c_5 => ?_) (fun c_5 => ?_)
  · have h := h.1 c_5
    refine g_iload_n dX10_man_13 rfl ?_
    refine g_if_lt (tgt := 23) dX10_man_14 (by decide) (fun c_6 => ?_) (fun c_6 => ?_)
    · have h := h.1 c_6
      exact g_sub [0, 1, 2] rfl h
    · have h := h.2 c_6
      refine g_iload_n dX10_man_17 rfl ?_
      refine g_bipush (7 : Int32) dX10_man_18 rfl ?_
      refine g_icmp_le (tgt := 27) dX10_man_20 (by decide) (fun c_7 => ?_) (fun c_7 => ?_)
      · have h := h.1 c_7
        refine g_iconst (0 : Int32) dX10_man_27 rfl ?_
        exact g_sub [0, 1, 2] rfl h
      · have h := h.2 c_7
        exact g_sub [0, 1, 2] rfl h
  · have h := h.2 c_5
    refine g_iconst (1 : Int32) dX10_man_9 rfl ?_
    refine g_goto (tgt := 28) dX10_man_10 (by decide) ?_
    exact g_sub [0, 1, 2] rfl h
set_option maxRecDepth 20000 in
set_option maxHeartbeats 4000000 in
theorem bl_X10_man_1 {l : Launch} {D : gD} {d : Nat} {q : Int32 → gMem → Prop} {Γ : gC} {r0 : Nat} {x1 : Int32} {x2 : Int32} {rs0 : Nat} {μ : gMem} (hr0 : r0 < 1) (hrs0 : rs0 < 1) (h : pt_X10_man_2 l D d q Γ r0 x1 x2 rs0 (2 : Int32) μ) : pt_X10_man_1 l D d q Γ r0 x1 x2 rs0 μ := by
  unfold pt_X10_man_1
  refine g_iconst (2 : Int32) dX10_man_23 rfl ?_
  refine g_goto (tgt := 28) dX10_man_24 (by decide) ?_
  exact g_sub [0, 1, 2] rfl h
set_option maxRecDepth 20000 in
set_option maxHeartbeats 4000000 in
theorem bl_X10_man_2 {l : Launch} {D : gD} {d : Nat} {q : Int32 → gMem → Prop} {Γ : gC} {r0 : Nat} {x1 : Int32} {x2 : Int32} {rs0 : Nat} {xs1 : Int32} {μ : gMem} (hr0 : r0 < 1) (hrs0 : rs0 < 1) (h : ∀ μ_1 : gMem, μ_1 = gsI μ 10 rs0 0 xs1 → (((μ_1.1 10 r0 0) = 0) → (x2 = (0 : Int32) → ∃ j_4 : Nat, j_4 < 115 ∧ x1 = nI j_4 ∧ (q (μ_1.1 740 r0 j_4) μ_1)) ∧ (x2 = (1 : Int32) → ∃ j_5 : Nat, j_5 < 115 ∧ x1 = nI j_5 ∧ (q (μ_1.1 741 r0 j_5) μ_1)) ∧ (x2 = (2 : Int32) → ∃ j_6 : Nat, j_6 < 10 ∧ x1 = nI j_6 ∧ (q (μ_1.1 711 r0 j_6) μ_1)) ∧ (x2 = (3 : Int32) → ∃ j_7 : Nat, j_7 < 115 ∧ x1 = nI j_7 ∧ (q (μ_1.1 742 r0 j_7) μ_1)) ∧ (x2 = (4 : Int32) → ∃ j_8 : Nat, j_8 < 115 ∧ x1 = nI j_8 ∧ (q (μ_1.1 743 r0 j_8) μ_1)) ∧ (x2 = (5 : Int32) → ∃ j_9 : Nat, j_9 < 115 ∧ x1 = nI j_9 ∧ (q (μ_1.1 744 r0 j_9) μ_1)) ∧ (x2 = (6 : Int32) → ∃ j_10 : Nat, j_10 < 115 ∧ x1 = nI j_10 ∧ (q (μ_1.1 745 r0 j_10) μ_1)) ∧ ((¬ x2 = (0 : Int32) ∧ ¬ x2 = (1 : Int32) ∧ ¬ x2 = (2 : Int32) ∧ ¬ x2 = (3 : Int32) ∧ ¬ x2 = (4 : Int32) ∧ ¬ x2 = (5 : Int32) ∧ ¬ x2 = (6 : Int32)) → ∃ j_11 : Nat, j_11 < 115 ∧ x1 = nI j_11 ∧ (q (μ_1.1 746 r0 j_11) μ_1))) ∧ ((¬ (μ_1.1 10 r0 0) = 0) → q (0 : Int32) μ_1)) : pt_X10_man_2 l D d q Γ r0 x1 x2 rs0 xs1 μ := by
  unfold pt_X10_man_2
  refine g_pfI fi_10_145 hrs0 rfl rfl dX10_man_28 ?_
  obtain ⟨μ_1, eμ_1⟩ : ∃ z : gMem, z = gsI μ 10 rs0 0 xs1 := ⟨_, rfl⟩
  have h := h μ_1 eμ_1
  refine g_mem eμ_1.symm ?_
  refine g_aload_n dX10_man_31 rfl ?_
  refine g_gfI fi_10_145 hr0 dX10_man_32 ?_
  refine g_if_eq (tgt := 40) dX10_man_35 (by decide) (fun c_2 => ?_) (fun c_2 => ?_)
  · have h := h.1 c_2
    refine g_iload_n dX10_man_40 rfl ?_
    by_cases c_3_0 : x2 = (0 : Int32)
    · refine g_tableIn (off := 43) (tgt := 84) dX10_man_41 (by rw [c_3_0]; decide) (by rw [c_3_0]; decide) (by rw [c_3_0]; rfl) (by decide) ?_
      have h := h.1 c_3_0
      refine g_aload_n dX10_man_84 rfl ?_
      refine g_gfR fl_10_75 rfl hr0 dX10_man_85 ?_
      refine g_iload_n dX10_man_88 rfl ?_
      obtain ⟨j_4, hj_4, ej_4, h⟩ := h
      refine g_iald j_4 hr0 rfl hj_4 (by decide) ej_4 dX10_man_89 ?_
      exact g_iret dX10_man_90 rfl rfl ⟨_, rfl, h⟩
    by_cases c_3_1 : x2 = (1 : Int32)
    · refine g_tableIn (off := 50) (tgt := 91) dX10_man_41 (by rw [c_3_1]; decide) (by rw [c_3_1]; decide) (by rw [c_3_1]; rfl) (by decide) ?_
      have h := h.2.1 c_3_1
      refine g_aload_n dX10_man_91 rfl ?_
      refine g_gfR fl_10_78 rfl hr0 dX10_man_92 ?_
      refine g_iload_n dX10_man_95 rfl ?_
      obtain ⟨j_5, hj_5, ej_5, h⟩ := h
      refine g_iald j_5 hr0 rfl hj_5 (by decide) ej_5 dX10_man_96 ?_
      exact g_iret dX10_man_97 rfl rfl ⟨_, rfl, h⟩
    by_cases c_3_2 : x2 = (2 : Int32)
    · refine g_tableIn (off := 57) (tgt := 98) dX10_man_41 (by rw [c_3_2]; decide) (by rw [c_3_2]; decide) (by rw [c_3_2]; rfl) (by decide) ?_
      have h := h.2.2.1 c_3_2
      refine g_aload_n dX10_man_98 rfl ?_
      refine g_gfR fl_10_25 rfl hr0 dX10_man_99 ?_
      refine g_iload_n dX10_man_102 rfl ?_
      obtain ⟨j_6, hj_6, ej_6, h⟩ := h
      refine g_iald j_6 hr0 rfl hj_6 (by decide) ej_6 dX10_man_103 ?_
      exact g_iret dX10_man_104 rfl rfl ⟨_, rfl, h⟩
    by_cases c_3_3 : x2 = (3 : Int32)
    · refine g_tableIn (off := 64) (tgt := 105) dX10_man_41 (by rw [c_3_3]; decide) (by rw [c_3_3]; decide) (by rw [c_3_3]; rfl) (by decide) ?_
      have h := h.2.2.2.1 c_3_3
      refine g_aload_n dX10_man_105 rfl ?_
      refine g_gfR fl_10_81 rfl hr0 dX10_man_106 ?_
      refine g_iload_n dX10_man_109 rfl ?_
      obtain ⟨j_7, hj_7, ej_7, h⟩ := h
      refine g_iald j_7 hr0 rfl hj_7 (by decide) ej_7 dX10_man_110 ?_
      exact g_iret dX10_man_111 rfl rfl ⟨_, rfl, h⟩
    by_cases c_3_4 : x2 = (4 : Int32)
    · refine g_tableIn (off := 71) (tgt := 112) dX10_man_41 (by rw [c_3_4]; decide) (by rw [c_3_4]; decide) (by rw [c_3_4]; rfl) (by decide) ?_
      have h := h.2.2.2.2.1 c_3_4
      refine g_aload_n dX10_man_112 rfl ?_
      refine g_gfR fl_10_84 rfl hr0 dX10_man_113 ?_
      refine g_iload_n dX10_man_116 rfl ?_
      obtain ⟨j_8, hj_8, ej_8, h⟩ := h
      refine g_iald j_8 hr0 rfl hj_8 (by decide) ej_8 dX10_man_117 ?_
      exact g_iret dX10_man_118 rfl rfl ⟨_, rfl, h⟩
    by_cases c_3_5 : x2 = (5 : Int32)
    · refine g_tableIn (off := 78) (tgt := 119) dX10_man_41 (by rw [c_3_5]; decide) (by rw [c_3_5]; decide) (by rw [c_3_5]; rfl) (by decide) ?_
      have h := h.2.2.2.2.2.1 c_3_5
      refine g_aload_n dX10_man_119 rfl ?_
      refine g_gfR fl_10_87 rfl hr0 dX10_man_120 ?_
      refine g_iload_n dX10_man_123 rfl ?_
      obtain ⟨j_9, hj_9, ej_9, h⟩ := h
      refine g_iald j_9 hr0 rfl hj_9 (by decide) ej_9 dX10_man_124 ?_
      exact g_iret dX10_man_125 rfl rfl ⟨_, rfl, h⟩
    by_cases c_3_6 : x2 = (6 : Int32)
    · refine g_tableIn (off := 85) (tgt := 126) dX10_man_41 (by rw [c_3_6]; decide) (by rw [c_3_6]; decide) (by rw [c_3_6]; rfl) (by decide) ?_
      have h := h.2.2.2.2.2.2.1 c_3_6
      refine g_aload_n dX10_man_126 rfl ?_
      refine g_gfR fl_10_90 rfl hr0 dX10_man_127 ?_
      refine g_iload_n dX10_man_130 rfl ?_
      obtain ⟨j_10, hj_10, ej_10, h⟩ := h
      refine g_iald j_10 hr0 rfl hj_10 (by decide) ej_10 dX10_man_131 ?_
      exact g_iret dX10_man_132 rfl rfl ⟨_, rfl, h⟩
    have c_3_o : (x2).toInt < 0 ∨ 6 < (x2).toInt := by
      have := lv_neT c_3_0 (a := 0) rfl
      have := lv_neT c_3_1 (a := 1) rfl
      have := lv_neT c_3_2 (a := 2) rfl
      have := lv_neT c_3_3 (a := 3) rfl
      have := lv_neT c_3_4 (a := 4) rfl
      have := lv_neT c_3_5 (a := 5) rfl
      have := lv_neT c_3_6 (a := 6) rfl
      omega
    refine g_tableOut (tgt := 133) dX10_man_41 c_3_o (by decide) ?_
    have h := h.2.2.2.2.2.2.2 ⟨c_3_0, c_3_1, c_3_2, c_3_3, c_3_4, c_3_5, c_3_6⟩
    refine g_aload_n dX10_man_133 rfl ?_
    refine g_gfR fl_10_93 rfl hr0 dX10_man_134 ?_
    refine g_iload_n dX10_man_137 rfl ?_
    obtain ⟨j_11, hj_11, ej_11, h⟩ := h
    refine g_iald j_11 hr0 rfl hj_11 (by decide) ej_11 dX10_man_138 ?_
    exact g_iret dX10_man_139 rfl rfl ⟨_, rfl, h⟩
  · have h := h.2 c_2
    refine g_iconst (0 : Int32) dX10_man_38 rfl ?_
    exact g_iret dX10_man_39 rfl rfl ⟨_, rfl, h⟩
theorem en_X10_man {l : Launch} {D : gD} {d : Nat} {q : Int32 → gMem → Prop} {r0 : Nat} {x1 : Int32} {x2 : Int32} {μ : gMem} (h : ∀ Γ : gC, pt_X10_man_0 l D d q Γ r0 x1 x2 μ) : Ctr l D d yX10_man cX10_man 3 (some .int) [.ref (D.2.2 10 r0), .int x1, .int x2] μ (pI q) :=
  Ctr_of rfl (by decide) (Nat.le_of_ble_eq_true rfl) (fun Γ => g_sub [0, 1, 2] rfl (h Γ))
def pt_X10_has_0 (l : Launch) (D : gD) (d : Nat) (q : Int32 → gMem → Prop) (Γ : gC) (r0 : Nat) (x1 : Int32) (x2 : Int32) (μ : gMem) : Prop := G l D RX10 cX10_has 3 (some .int) d (pI q) Γ 0 [(0, .ref (D.2.2 10 r0)), (1, .int x1), (2, .int x2)] [] μ
set_option maxRecDepth 20000 in
set_option maxHeartbeats 4000000 in
theorem bl_X10_has_0 {l : Launch} {D : gD} {d : Nat} {q : Int32 → gMem → Prop} {Γ : gC} {r0 : Nat} {x1 : Int32} {x2 : Int32} {μ : gMem} (hr0 : r0 < 1) (h : ∀ μ_1 : gMem, μ_1 = gsI μ 10 r0 0 (0 : Int32) → (0 < d) ∧ (((¬ (isn x1 (μ_1.1 707 r0 0)) = 0) → ((¬ x2 = 0) → ((¬ x2 = (1 : Int32)) → ((¬ x2 = (2 : Int32)) → ((¬ x2 = (3 : Int32)) → q (-1 : Int32) μ_1) ∧ ((x2 = (3 : Int32)) → ∃ j_11 : Nat, j_11 < 115 ∧ x1 = nI j_11 ∧ (q (μ_1.1 750 r0 j_11) μ_1))) ∧ ((x2 = (2 : Int32)) → ∃ j_12 : Nat, j_12 < 115 ∧ x1 = nI j_12 ∧ (q (μ_1.1 749 r0 j_12) μ_1))) ∧ ((x2 = (1 : Int32)) → ∃ j_13 : Nat, j_13 < 115 ∧ x1 = nI j_13 ∧ (q (μ_1.1 748 r0 j_13) μ_1))) ∧ ((x2 = 0) → ∃ j_14 : Nat, j_14 < 115 ∧ x1 = nI j_14 ∧ (q (μ_1.1 747 r0 j_14) μ_1))) ∧ (((isn x1 (μ_1.1 707 r0 0)) = 0) → q (-1 : Int32) μ_1))) : pt_X10_has_0 l D d q Γ r0 x1 x2 μ := by
  unfold pt_X10_has_0
  refine g_aload_n dX10_has_0 rfl ?_
  refine g_iconst (0 : Int32) dX10_has_1 rfl ?_
  refine g_pfI fi_10_145 hr0 rfl rfl dX10_has_2 ?_
  obtain ⟨μ_1, eμ_1⟩ : ∃ z : gMem, z = gsI μ 10 r0 0 (0 : Int32) := ⟨_, rfl⟩
  have h := h μ_1 eμ_1
  refine g_mem eμ_1.symm ?_
  refine g_aload_n dX10_has_5 rfl ?_
  refine g_iload_n dX10_has_6 rfl ?_
  obtain ⟨hd_2, h⟩ := h
  refine g_cV ca_X10_394 ob_10 (c_X10_isMan (d := 0) (Nat.le_refl _) hr0 ) hd_2 (by decide) hr0 rfl rfl (by first | exact Nat.le_of_ble_eq_true rfl | decide) dX10_has_7 (kI (fun v_3 μ_4 hq_5 => ?_))
  obtain ⟨ev_3, eμ_4⟩ := hq_5
  subst ev_3
  refine g_mem eμ_4 ?_
  refine g_if_ne (tgt := 15) dX10_has_10 (by decide) (fun c_6 => ?_) (fun c_6 => ?_)
  · have h := h.1 c_6
    refine g_iload_n dX10_has_15 rfl ?_
    refine g_if_ne (tgt := 28) dX10_has_16 (by decide) (fun c_7 => ?_) (fun c_7 => ?_)
    · have h := h.1 c_7
      refine g_iload_n dX10_has_28 rfl ?_
      refine g_iconst (1 : Int32) dX10_has_29 rfl ?_
      refine g_icmp_ne (tgt := 42) dX10_has_30 (by decide) (fun c_8 => ?_) (fun c_8 => ?_)
      · have h := h.1 c_8
        refine g_iload_n dX10_has_42 rfl ?_
        refine g_iconst (2 : Int32) dX10_has_43 rfl ?_
        refine g_icmp_ne (tgt := 56) dX10_has_44 (by decide) (fun c_9 => ?_) (fun c_9 => ?_)
        · have h := h.1 c_9
          refine g_iload_n dX10_has_56 rfl ?_
          refine g_iconst (3 : Int32) dX10_has_57 rfl ?_
          refine g_icmp_ne (tgt := 70) dX10_has_58 (by decide) (fun c_10 => ?_) (fun c_10 => ?_)
          · have h := h.1 c_10
            refine g_iconst (-1 : Int32) dX10_has_70 rfl ?_
            exact g_iret dX10_has_71 rfl rfl ⟨_, rfl, h⟩
          · have h := h.2 c_10
            refine g_aload_n dX10_has_61 rfl ?_
            refine g_gfR fl_10_105 rfl hr0 dX10_has_62 ?_
            refine g_iload_n dX10_has_65 rfl ?_
            obtain ⟨j_11, hj_11, ej_11, h⟩ := h
            refine g_iald j_11 hr0 rfl hj_11 (by decide) ej_11 dX10_has_66 ?_
            refine g_goto (tgt := 71) dX10_has_67 (by decide) ?_
            exact g_iret dX10_has_71 rfl rfl ⟨_, rfl, h⟩
        · have h := h.2 c_9
          refine g_aload_n dX10_has_47 rfl ?_
          refine g_gfR fl_10_102 rfl hr0 dX10_has_48 ?_
          refine g_iload_n dX10_has_51 rfl ?_
          obtain ⟨j_12, hj_12, ej_12, h⟩ := h
          refine g_iald j_12 hr0 rfl hj_12 (by decide) ej_12 dX10_has_52 ?_
          refine g_goto (tgt := 71) dX10_has_53 (by decide) ?_
          exact g_iret dX10_has_71 rfl rfl ⟨_, rfl, h⟩
      · have h := h.2 c_8
        refine g_aload_n dX10_has_33 rfl ?_
        refine g_gfR fl_10_99 rfl hr0 dX10_has_34 ?_
        refine g_iload_n dX10_has_37 rfl ?_
        obtain ⟨j_13, hj_13, ej_13, h⟩ := h
        refine g_iald j_13 hr0 rfl hj_13 (by decide) ej_13 dX10_has_38 ?_
        refine g_goto (tgt := 71) dX10_has_39 (by decide) ?_
        exact g_iret dX10_has_71 rfl rfl ⟨_, rfl, h⟩
    · have h := h.2 c_7
      refine g_aload_n dX10_has_19 rfl ?_
      refine g_gfR fl_10_96 rfl hr0 dX10_has_20 ?_
      refine g_iload_n dX10_has_23 rfl ?_
      obtain ⟨j_14, hj_14, ej_14, h⟩ := h
      refine g_iald j_14 hr0 rfl hj_14 (by decide) ej_14 dX10_has_24 ?_
      refine g_goto (tgt := 71) dX10_has_25 (by decide) ?_
      exact g_iret dX10_has_71 rfl rfl ⟨_, rfl, h⟩
  · have h := h.2 c_6
    refine g_iconst (-1 : Int32) dX10_has_13 rfl ?_
    exact g_iret dX10_has_14 rfl rfl ⟨_, rfl, h⟩
theorem en_X10_has {l : Launch} {D : gD} {d : Nat} {q : Int32 → gMem → Prop} {r0 : Nat} {x1 : Int32} {x2 : Int32} {μ : gMem} (h : ∀ Γ : gC, pt_X10_has_0 l D d q Γ r0 x1 x2 μ) : Ctr l D d yX10_has cX10_has 3 (some .int) [.ref (D.2.2 10 r0), .int x1, .int x2] μ (pI q) :=
  Ctr_of rfl (by decide) (Nat.le_of_ble_eq_true rfl) (fun Γ => g_sub [0, 1, 2] rfl (h Γ))
def pt_X10_deed_0 (l : Launch) (D : gD) (d : Nat) (q : Int32 → gMem → Prop) (Γ : gC) (r0 : Nat) (x1 : Int32) (x2 : Int32) (μ : gMem) : Prop := G l D RX10 cX10_deed 3 (some .int) d (pI q) Γ 0 [(0, .ref (D.2.2 10 r0)), (1, .int x1), (2, .int x2)] [] μ
set_option maxRecDepth 20000 in
set_option maxHeartbeats 4000000 in
theorem bl_X10_deed_0 {l : Launch} {D : gD} {d : Nat} {q : Int32 → gMem → Prop} {Γ : gC} {r0 : Nat} {x1 : Int32} {x2 : Int32} {μ : gMem} (hr0 : r0 < 1) (h : ∀ μ_1 : gMem, μ_1 = gsI μ 10 r0 0 (0 : Int32) → (0 < d) ∧ (((¬ (isn x1 (μ_1.1 707 r0 1)) = 0) → ((¬ x2 = 0) → ((¬ x2 = (1 : Int32)) → ((¬ x2 = (2 : Int32)) → q (-1 : Int32) μ_1) ∧ ((x2 = (2 : Int32)) → ∃ j_10 : Nat, j_10 < 12 ∧ x1 = nI j_10 ∧ (q (μ_1.1 715 r0 j_10) μ_1))) ∧ ((x2 = (1 : Int32)) → ∃ j_11 : Nat, j_11 < 12 ∧ x1 = nI j_11 ∧ (q (μ_1.1 714 r0 j_11) μ_1))) ∧ ((x2 = 0) → ∃ j_12 : Nat, j_12 < 12 ∧ x1 = nI j_12 ∧ (q (μ_1.1 713 r0 j_12) μ_1))) ∧ (((isn x1 (μ_1.1 707 r0 1)) = 0) → q (-1 : Int32) μ_1))) : pt_X10_deed_0 l D d q Γ r0 x1 x2 μ := by
  unfold pt_X10_deed_0
  refine g_aload_n dX10_deed_0 rfl ?_
  refine g_iconst (0 : Int32) dX10_deed_1 rfl ?_
  refine g_pfI fi_10_145 hr0 rfl rfl dX10_deed_2 ?_
  obtain ⟨μ_1, eμ_1⟩ : ∃ z : gMem, z = gsI μ 10 r0 0 (0 : Int32) := ⟨_, rfl⟩
  have h := h μ_1 eμ_1
  refine g_mem eμ_1.symm ?_
  refine g_aload_n dX10_deed_5 rfl ?_
  refine g_iload_n dX10_deed_6 rfl ?_
  obtain ⟨hd_2, h⟩ := h
  refine g_cV ca_X10_397 ob_10 (c_X10_isDeed (d := 0) (Nat.le_refl _) hr0 ) hd_2 (by decide) hr0 rfl rfl (by first | exact Nat.le_of_ble_eq_true rfl | decide) dX10_deed_7 (kI (fun v_3 μ_4 hq_5 => ?_))
  obtain ⟨ev_3, eμ_4⟩ := hq_5
  subst ev_3
  refine g_mem eμ_4 ?_
  refine g_if_ne (tgt := 15) dX10_deed_10 (by decide) (fun c_6 => ?_) (fun c_6 => ?_)
  · have h := h.1 c_6
    refine g_iload_n dX10_deed_15 rfl ?_
    refine g_if_ne (tgt := 28) dX10_deed_16 (by decide) (fun c_7 => ?_) (fun c_7 => ?_)
    · have h := h.1 c_7
      refine g_iload_n dX10_deed_28 rfl ?_
      refine g_iconst (1 : Int32) dX10_deed_29 rfl ?_
      refine g_icmp_ne (tgt := 42) dX10_deed_30 (by decide) (fun c_8 => ?_) (fun c_8 => ?_)
      · have h := h.1 c_8
        refine g_iload_n dX10_deed_42 rfl ?_
        refine g_iconst (2 : Int32) dX10_deed_43 rfl ?_
        refine g_icmp_ne (tgt := 56) dX10_deed_44 (by decide) (fun c_9 => ?_) (fun c_9 => ?_)
        · have h := h.1 c_9
          refine g_iconst (-1 : Int32) dX10_deed_56 rfl ?_
          exact g_iret dX10_deed_57 rfl rfl ⟨_, rfl, h⟩
        · have h := h.2 c_9
          refine g_aload_n dX10_deed_47 rfl ?_
          refine g_gfR fl_10_37 rfl hr0 dX10_deed_48 ?_
          refine g_iload_n dX10_deed_51 rfl ?_
          obtain ⟨j_10, hj_10, ej_10, h⟩ := h
          refine g_iald j_10 hr0 rfl hj_10 (by decide) ej_10 dX10_deed_52 ?_
          refine g_goto (tgt := 57) dX10_deed_53 (by decide) ?_
          exact g_iret dX10_deed_57 rfl rfl ⟨_, rfl, h⟩
      · have h := h.2 c_8
        refine g_aload_n dX10_deed_33 rfl ?_
        refine g_gfR fl_10_34 rfl hr0 dX10_deed_34 ?_
        refine g_iload_n dX10_deed_37 rfl ?_
        obtain ⟨j_11, hj_11, ej_11, h⟩ := h
        refine g_iald j_11 hr0 rfl hj_11 (by decide) ej_11 dX10_deed_38 ?_
        refine g_goto (tgt := 57) dX10_deed_39 (by decide) ?_
        exact g_iret dX10_deed_57 rfl rfl ⟨_, rfl, h⟩
    · have h := h.2 c_7
      refine g_aload_n dX10_deed_19 rfl ?_
      refine g_gfR fl_10_31 rfl hr0 dX10_deed_20 ?_
      refine g_iload_n dX10_deed_23 rfl ?_
      obtain ⟨j_12, hj_12, ej_12, h⟩ := h
      refine g_iald j_12 hr0 rfl hj_12 (by decide) ej_12 dX10_deed_24 ?_
      refine g_goto (tgt := 57) dX10_deed_25 (by decide) ?_
      exact g_iret dX10_deed_57 rfl rfl ⟨_, rfl, h⟩
  · have h := h.2 c_6
    refine g_iconst (-1 : Int32) dX10_deed_13 rfl ?_
    exact g_iret dX10_deed_14 rfl rfl ⟨_, rfl, h⟩
theorem en_X10_deed {l : Launch} {D : gD} {d : Nat} {q : Int32 → gMem → Prop} {r0 : Nat} {x1 : Int32} {x2 : Int32} {μ : gMem} (h : ∀ Γ : gC, pt_X10_deed_0 l D d q Γ r0 x1 x2 μ) : Ctr l D d yX10_deed cX10_deed 3 (some .int) [.ref (D.2.2 10 r0), .int x1, .int x2] μ (pI q) :=
  Ctr_of rfl (by decide) (Nat.le_of_ble_eq_true rfl) (fun Γ => g_sub [0, 1, 2] rfl (h Γ))
def pt_X10_times_0 (l : Launch) (D : gD) (d : Nat) (q : Int32 → gMem → Prop) (Γ : gC) (r0 : Nat) (x1 : Int32) (x2 : Int32) (μ : gMem) : Prop := G l D RX10 cX10_times 3 (some .int) d (pI q) Γ 0 [(0, .ref (D.2.2 10 r0)), (1, .int x1), (2, .int x2)] [] μ
set_option maxRecDepth 20000 in
set_option maxHeartbeats 4000000 in
theorem bl_X10_times_0 {l : Launch} {D : gD} {d : Nat} {q : Int32 → gMem → Prop} {Γ : gC} {r0 : Nat} {x1 : Int32} {x2 : Int32} {μ : gMem} (hr0 : r0 < 1) (h : ∀ μ_1 : gMem, μ_1 = gsI μ 10 r0 0 (0 : Int32) → (0 < d) ∧ ((((isn x1 (μ_1.1 707 r0 0)) = 0) → q (-1 : Int32) μ_1) ∧ ((¬ (isn x1 (μ_1.1 707 r0 0)) = 0) → (0 < d) ∧ ((((isn x2 (μ_1.1 707 r0 1)) = 0) → q (-1 : Int32) μ_1) ∧ ((¬ (isn x2 (μ_1.1 707 r0 1)) = 0) → ∃ j_12 : Nat, j_12 < 690 ∧ ((6 : Int32) * x1) + x2 = nI j_12 ∧ (q (μ_1.1 751 r0 j_12) μ_1)))))) : pt_X10_times_0 l D d q Γ r0 x1 x2 μ := by
  unfold pt_X10_times_0
  refine g_aload_n dX10_times_0 rfl ?_
  refine g_iconst (0 : Int32) dX10_times_1 rfl ?_
  refine g_pfI fi_10_145 hr0 rfl rfl dX10_times_2 ?_
  obtain ⟨μ_1, eμ_1⟩ : ∃ z : gMem, z = gsI μ 10 r0 0 (0 : Int32) := ⟨_, rfl⟩
  have h := h μ_1 eμ_1
  refine g_mem eμ_1.symm ?_
  refine g_aload_n dX10_times_5 rfl ?_
  refine g_iload_n dX10_times_6 rfl ?_
  obtain ⟨hd_2, h⟩ := h
  refine g_cV ca_X10_394 ob_10 (c_X10_isMan (d := 0) (Nat.le_refl _) hr0 ) hd_2 (by decide) hr0 rfl rfl (by first | exact Nat.le_of_ble_eq_true rfl | decide) dX10_times_7 (kI (fun v_3 μ_4 hq_5 => ?_))
  obtain ⟨ev_3, eμ_4⟩ := hq_5
  subst ev_3
  refine g_mem eμ_4 ?_
  refine g_if_eq (tgt := 35) dX10_times_10 (by decide) (fun c_6 => ?_) (fun c_6 => ?_)
  · have h := h.1 c_6
    refine g_iconst (-1 : Int32) dX10_times_35 rfl ?_
    exact g_iret dX10_times_36 rfl rfl ⟨_, rfl, h⟩
  · have h := h.2 c_6
    refine g_aload_n dX10_times_13 rfl ?_
    refine g_iload_n dX10_times_14 rfl ?_
    obtain ⟨hd_7, h⟩ := h
    refine g_cV ca_X10_397 ob_10 (c_X10_isDeed (d := 0) (Nat.le_refl _) hr0 ) hd_7 (by decide) hr0 rfl rfl (by first | exact Nat.le_of_ble_eq_true rfl | decide) dX10_times_15 (kI (fun v_8 μ_9 hq_10 => ?_))
    obtain ⟨ev_8, eμ_9⟩ := hq_10
    subst ev_8
    refine g_mem eμ_9 ?_
    refine g_if_eq (tgt := 35) dX10_times_18 (by decide) (fun c_11 => ?_) (fun c_11 => ?_)
    · have h := h.1 c_11
      refine g_iconst (-1 : Int32) dX10_times_35 rfl ?_
      exact g_iret dX10_times_36 rfl rfl ⟨_, rfl, h⟩
    · have h := h.2 c_11
      refine g_aload_n dX10_times_21 rfl ?_
      refine g_gfR fl_10_108 rfl hr0 dX10_times_22 ?_
      refine g_bipush (6 : Int32) dX10_times_25 rfl ?_
      refine g_iload_n dX10_times_27 rfl ?_
      refine g_imul dX10_times_28 ?_
      refine g_iload_n dX10_times_29 rfl ?_
      refine g_iadd dX10_times_30 ?_
      obtain ⟨j_12, hj_12, ej_12, h⟩ := h
      refine g_iald j_12 hr0 rfl hj_12 (by decide) ej_12 dX10_times_31 ?_
      refine g_goto (tgt := 36) dX10_times_32 (by decide) ?_
      exact g_iret dX10_times_36 rfl rfl ⟨_, rfl, h⟩
theorem en_X10_times {l : Launch} {D : gD} {d : Nat} {q : Int32 → gMem → Prop} {r0 : Nat} {x1 : Int32} {x2 : Int32} {μ : gMem} (h : ∀ Γ : gC, pt_X10_times_0 l D d q Γ r0 x1 x2 μ) : Ctr l D d yX10_times cX10_times 3 (some .int) [.ref (D.2.2 10 r0), .int x1, .int x2] μ (pI q) :=
  Ctr_of rfl (by decide) (Nat.le_of_ble_eq_true rfl) (fun Γ => g_sub [0, 1, 2] rfl (h Γ))
def pt_X10_law_0 (l : Launch) (D : gD) (d : Nat) (q : Int64 → gMem → Prop) (Γ : gC) (r0 : Nat) (x1 : Int32) (x2 : Int32) (μ : gMem) : Prop := G l D RX10 cX10_law 4 (some .long) d (pJ q) Γ 0 [(0, .ref (D.2.2 10 r0)), (1, .int x1), (2, .int x2)] [] μ
def pt_X10_law_1 (l : Launch) (D : gD) (d : Nat) (q : Int64 → gMem → Prop) (Γ : gC) (r0 : Nat) (x1 : Int32) (x2 : Int32) (xs0 : Int32) (xs1 : Int32) (μ : gMem) : Prop := G l D RX10 cX10_law 4 (some .long) d (pJ q) Γ 71 [(0, .ref (D.2.2 10 r0)), (1, .int x1), (2, .int x2)] [.int xs1, .int xs0] μ
set_option maxRecDepth 20000 in
set_option maxHeartbeats 4000000 in
theorem bl_X10_law_0 {l : Launch} {D : gD} {d : Nat} {q : Int64 → gMem → Prop} {Γ : gC} {r0 : Nat} {x1 : Int32} {x2 : Int32} {μ : gMem} (hr0 : r0 < 1) (h : ∀ μ_1 : gMem, μ_1 = gsI μ 10 r0 0 (0 : Int32) → ((x1 < 0) → q (-9223372036854775808 : Int64) μ_1) ∧ ((¬ x1 < 0) → (((2 : Int32) < x1) → q (-9223372036854775808 : Int64) μ_1) ∧ ((¬ (2 : Int32) < x1) → ∃ (d_4 : Nat) (q_5 : Int32 → gMem → Prop), d_4 < d ∧ Ctr l D d_4 yX10_hasLaw cX10_hasLaw 2 (some .boolean) [.ref (D.2.2 10 r0), .int x1] μ_1 (pI q_5) ∧ ∀ (v_9 : Int32) (μ_8 : gMem), q_5 v_9 μ_8 → ((v_9 = 0) → q (-9223372036854775808 : Int64) μ_8) ∧ ((¬ v_9 = 0) → (0 < d) ∧ (((¬ (isn x2 (μ_8.1 707 r0 0)) = 0) → ∃ j_17 : Nat, j_17 < 115 ∧ x2 = nI j_17 ∧ (∃ j_18 : Nat, j_18 < 115 ∧ x2 = nI j_18 ∧ (((¬ (μ_8.1 747 r0 j_18) = (1 : Int32)) → pt_X10_law_1 l D d q Γ r0 x1 x2 (μ_8.1 748 r0 j_17) (0 : Int32) μ_8) ∧ (((μ_8.1 747 r0 j_18) = (1 : Int32)) → ∃ j_20 : Nat, j_20 < 115 ∧ x2 = nI j_20 ∧ (∃ (d_21 : Nat) (q_22 : Int32 → gMem → Prop), d_21 < d ∧ Ctr l D d_21 yX10_deedSteps cX10_deedSteps 6 (some .int) [.ref (D.2.2 10 r0), .int (0 : Int32), .int x2, .ref (D.2.2 714 r0)] μ_8 (pI q_22) ∧ ∀ (v_26 : Int32) (μ_25 : gMem), q_22 v_26 μ_25 → pt_X10_law_1 l D d q Γ r0 x1 x2 (μ_8.1 748 r0 j_17) ((μ_8.1 741 r0 j_20) + v_26) μ_25))))) ∧ (((isn x2 (μ_8.1 707 r0 0)) = 0) → q (-9223372036854775808 : Int64) μ_8)))))) : pt_X10_law_0 l D d q Γ r0 x1 x2 μ := by
  unfold pt_X10_law_0
  refine g_aload_n dX10_law_0 rfl ?_
  refine g_iconst (0 : Int32) dX10_law_1 rfl ?_
  refine g_pfI fi_10_145 hr0 rfl rfl dX10_law_2 ?_
  obtain ⟨μ_1, eμ_1⟩ : ∃ z : gMem, z = gsI μ 10 r0 0 (0 : Int32) := ⟨_, rfl⟩
  have h := h μ_1 eμ_1
  refine g_mem eμ_1.symm ?_
  refine g_iload_n dX10_law_5 rfl ?_
  refine g_if_lt (tgt := 30) dX10_law_6 (by decide) (fun c_2 => ?_) (fun c_2 => ?_)
  · have h := h.1 c_2
    refine g_ldc2 kc_X10_402 dX10_law_30 ?_
    exact g_lret dX10_law_33 rfl ⟨_, rfl, h⟩
  · have h := h.2 c_2
    refine g_iload_n dX10_law_9 rfl ?_
    refine g_iconst (2 : Int32) dX10_law_10 rfl ?_
    refine g_icmp_gt (tgt := 30) dX10_law_11 (by decide) (fun c_3 => ?_) (fun c_3 => ?_)
    · have h := h.1 c_3
      refine g_ldc2 kc_X10_402 dX10_law_30 ?_
      exact g_lret dX10_law_33 rfl ⟨_, rfl, h⟩
    · have h := h.2 c_3
      refine g_aload_n dX10_law_14 rfl ?_
      refine g_iload_n dX10_law_15 rfl ?_
      obtain ⟨d_4, q_5, hd_6, hc_7, h⟩ := h
      refine g_cV ca_X10_343 ob_10 hc_7 hd_6 (by decide) hr0 rfl rfl (by first | exact Nat.le_of_ble_eq_true rfl | decide) dX10_law_16 (kI (fun v_9 μ_8 hq_10 => ?_))
      have h := h v_9 μ_8 hq_10
      refine g_if_eq (tgt := 30) dX10_law_19 (by decide) (fun c_11 => ?_) (fun c_11 => ?_)
      · have h := h.1 c_11
        refine g_ldc2 kc_X10_402 dX10_law_30 ?_
        exact g_lret dX10_law_33 rfl ⟨_, rfl, h⟩
      · have h := h.2 c_11
        refine g_aload_n dX10_law_22 rfl ?_
        refine g_iload_n dX10_law_23 rfl ?_
        obtain ⟨hd_12, h⟩ := h
        refine g_cV ca_X10_394 ob_10 (c_X10_isMan (d := 0) (Nat.le_refl _) hr0 ) hd_12 (by decide) hr0 rfl rfl (by first | exact Nat.le_of_ble_eq_true rfl | decide) dX10_law_24 (kI (fun v_13 μ_14 hq_15 => ?_))
        obtain ⟨ev_13, eμ_14⟩ := hq_15
        subst ev_13
        refine g_mem eμ_14 ?_
        refine g_if_ne (tgt := 34) dX10_law_27 (by decide) (fun c_16 => ?_) (fun c_16 => ?_)
        · have h := h.1 c_16
          refine g_aload_n dX10_law_34 rfl ?_
          refine g_gfR fl_10_99 rfl hr0 dX10_law_35 ?_
          refine g_iload_n dX10_law_38 rfl ?_
          obtain ⟨j_17, hj_17, ej_17, h⟩ := h
          refine g_iald j_17 hr0 rfl hj_17 (by decide) ej_17 dX10_law_39 ?_
          refine g_aload_n dX10_law_40 rfl ?_
          refine g_gfR fl_10_96 rfl hr0 dX10_law_41 ?_
          refine g_iload_n dX10_law_44 rfl ?_
          obtain ⟨j_18, hj_18, ej_18, h⟩ := h
          refine g_iald j_18 hr0 rfl hj_18 (by decide) ej_18 dX10_law_45 ?_
          refine g_iconst (1 : Int32) dX10_law_46 rfl ?_
          refine g_icmp_ne (tgt := 70) dX10_law_47 (by decide) (fun c_19 => ?_) (fun c_19 => ?_)
          · have h := h.1 c_19
            refine g_iconst (0 : Int32) dX10_law_70 rfl ?_
            exact g_sub [0, 1, 2] rfl h
          · have h := h.2 c_19
            refine g_aload_n dX10_law_50 rfl ?_
            refine g_gfR fl_10_78 rfl hr0 dX10_law_51 ?_
            refine g_iload_n dX10_law_54 rfl ?_
            obtain ⟨j_20, hj_20, ej_20, h⟩ := h
            refine g_iald j_20 hr0 rfl hj_20 (by decide) ej_20 dX10_law_55 ?_
            refine g_aload_n dX10_law_56 rfl ?_
            refine g_iconst (0 : Int32) dX10_law_57 rfl ?_
            refine g_iload_n dX10_law_58 rfl ?_
            refine g_aload_n dX10_law_59 rfl ?_
            refine g_gfR fl_10_34 rfl hr0 dX10_law_60 ?_
            obtain ⟨d_21, q_22, hd_23, hc_24, h⟩ := h
            refine g_cV ca_X10_355 ob_10 hc_24 hd_23 (by decide) hr0 rfl rfl (by first | exact Nat.le_of_ble_eq_true rfl | decide) dX10_law_63 (kI (fun v_26 μ_25 hq_27 => ?_))
            have h := h v_26 μ_25 hq_27
            refine g_iadd dX10_law_66 ?_
            refine g_goto (tgt := 71) dX10_law_67 (by decide) ?_
            exact g_sub [0, 1, 2] rfl h
        · have h := h.2 c_16
          refine g_ldc2 kc_X10_402 dX10_law_30 ?_
          exact g_lret dX10_law_33 rfl ⟨_, rfl, h⟩
set_option maxRecDepth 20000 in
set_option maxHeartbeats 4000000 in
theorem bl_X10_law_1 {l : Launch} {D : gD} {d : Nat} {q : Int64 → gMem → Prop} {Γ : gC} {r0 : Nat} {x1 : Int32} {x2 : Int32} {xs0 : Int32} {xs1 : Int32} {μ : gMem} (hr0 : r0 < 1) (h : ∀ x3_1 : Int32, x3_1 = xs0 + xs1 → ∃ (d_2 : Nat) (q_3 : gMem → Prop), d_2 < d ∧ Ctr l D d_2 yX10_calls cX10_calls 5 none [.ref (D.2.2 10 r0), .int (0 : Int32), .int x2, .int x3_1] μ (pV q_3) ∧ ∀ (μ_6 : gMem), q_3 μ_6 → ∃ (d_9 : Nat) (q_10 : Int32 → gMem → Prop), d_9 < d ∧ Ctr l D d_9 yX10_goes cX10_goes 3 (some .boolean) [.ref (D.2.2 10 r0), .int x1] μ_6 (pI q_10) ∧ ∀ (v_14 : Int32) (μ_13 : gMem), q_10 v_14 μ_13 → ((v_14 = 0) → q (-9223372036854775808 : Int64) μ_13) ∧ ((¬ v_14 = 0) → q (μ_13.2.1 735 r0 0) μ_13)) : pt_X10_law_1 l D d q Γ r0 x1 x2 xs0 xs1 μ := by
  unfold pt_X10_law_1
  refine g_iadd dX10_law_71 ?_
  refine g_istore_n dX10_law_72 (by decide) (fun x3_1 ex3_1 => g_sub (lv' := [(0, .ref (D.2.2 10 r0)), (1, .int x1), (2, .int x2), (3, .int x3_1)]) [1, 2, 3, 0] rfl ?_)
  have h := h x3_1 ex3_1
  refine g_aload_n dX10_law_73 rfl ?_
  refine g_iconst (0 : Int32) dX10_law_74 rfl ?_
  refine g_iload_n dX10_law_75 rfl ?_
  refine g_iload_n dX10_law_76 rfl ?_
  obtain ⟨d_2, q_3, hd_4, hc_5, h⟩ := h
  refine g_cV ca_X10_363 ob_10 hc_5 hd_4 (by decide) hr0 rfl rfl (by first | exact Nat.le_of_ble_eq_true rfl | decide) dX10_law_77 (kV (fun μ_6 hq_8 => ?_))
  have h := h μ_6 hq_8
  refine g_aload_n dX10_law_80 rfl ?_
  refine g_iload_n dX10_law_81 rfl ?_
  obtain ⟨d_9, q_10, hd_11, hc_12, h⟩ := h
  refine g_cV ca_X10_346 ob_10 hc_12 hd_11 (by decide) hr0 rfl rfl (by first | exact Nat.le_of_ble_eq_true rfl | decide) dX10_law_82 (kI (fun v_14 μ_13 hq_15 => ?_))
  have h := h v_14 μ_13 hq_15
  refine g_if_eq (tgt := 97) dX10_law_85 (by decide) (fun c_16 => ?_) (fun c_16 => ?_)
  · have h := h.1 c_16
    refine g_ldc2 kc_X10_402 dX10_law_97 ?_
    exact g_lret dX10_law_100 rfl ⟨_, rfl, h⟩
  · have h := h.2 c_16
    refine g_aload_n dX10_law_88 rfl ?_
    refine g_gfR fl_10_63 rfl hr0 dX10_law_89 ?_
    refine g_iconst (0 : Int32) dX10_law_92 rfl ?_
    refine g_lald 0 hr0 rfl (by decide) (by decide) rfl dX10_law_93 ?_
    refine g_goto (tgt := 100) dX10_law_94 (by decide) ?_
    exact g_lret dX10_law_100 rfl ⟨_, rfl, h⟩
theorem en_X10_law {l : Launch} {D : gD} {d : Nat} {q : Int64 → gMem → Prop} {r0 : Nat} {x1 : Int32} {x2 : Int32} {μ : gMem} (h : ∀ Γ : gC, pt_X10_law_0 l D d q Γ r0 x1 x2 μ) : Ctr l D d yX10_law cX10_law 4 (some .long) [.ref (D.2.2 10 r0), .int x1, .int x2] μ (pJ q) :=
  Ctr_of rfl (by decide) (Nat.le_of_ble_eq_true rfl) (fun Γ => g_sub [0, 1, 2] rfl (h Γ))
def pt_X10_keepNow_0 (l : Launch) (D : gD) (d : Nat) (q : gMem → Prop) (Γ : gC) (r0 : Nat) (μ : gMem) : Prop := G l D RX10 cX10_keepNow 2 none d (pV q) Γ 0 [(0, .ref (D.2.2 10 r0))] [] μ
def pt_X10_keepNow_1 (l : Launch) (D : gD) (d : Nat) (q : gMem → Prop) (Γ : gC) (r0 : Nat) (x1 : Int32) (μ : gMem) : Prop := G l D RX10 cX10_keepNow 2 none d (pV q) Γ 11 [(0, .ref (D.2.2 10 r0)), (1, .int x1)] [] μ
def pt_X10_keepNow_2 (l : Launch) (D : gD) (d : Nat) (q : gMem → Prop) (Γ : gC) (r0 : Nat) (μ : gMem) : Prop := G l D RX10 cX10_keepNow 2 none d (pV q) Γ 45 [(0, .ref (D.2.2 10 r0))] [] μ
set_option maxRecDepth 20000 in
set_option maxHeartbeats 4000000 in
theorem bl_X10_keepNow_0 {l : Launch} {D : gD} {d : Nat} {q : gMem → Prop} {Γ : gC} {r0 : Nat} {μ : gMem} (hr0 : r0 < 1) (h : ((¬ (μ.1 10 r0 50) = (20 : Int32)) → pt_X10_keepNow_2 l D d q Γ r0 μ) ∧ (((μ.1 10 r0 50) = (20 : Int32)) → ∀ x1_2 : Int32, x1_2 = (1 : Int32) → pt_X10_keepNow_1 l D d q Γ r0 x1_2 μ)) : pt_X10_keepNow_0 l D d q Γ r0 μ := by
  unfold pt_X10_keepNow_0
  refine g_aload_n dX10_keepNow_0 rfl ?_
  refine g_gfI fi_10_305 hr0 dX10_keepNow_1 ?_
  refine g_bipush (20 : Int32) dX10_keepNow_4 rfl ?_
  refine g_icmp_ne (tgt := 45) dX10_keepNow_6 (by decide) (fun c_1 => ?_) (fun c_1 => ?_)
  · have h := h.1 c_1
    exact g_sub [0] rfl h
  · have h := h.2 c_1
    refine g_iconst (1 : Int32) dX10_keepNow_9 rfl ?_
    refine g_istore_n dX10_keepNow_10 (by decide) (fun x1_2 ex1_2 => g_sub (lv' := [(0, .ref (D.2.2 10 r0)), (1, .int x1_2)]) [1, 0] rfl ?_)
    have h := h x1_2 ex1_2
    exact g_sub [0, 1] rfl h
set_option maxRecDepth 20000 in
set_option maxHeartbeats 4000000 in
theorem bl_X10_keepNow_1 {l : Launch} {D : gD} {d : Nat} {q : gMem → Prop} {Γ : gC} {r0 : Nat} {x1 : Int32} {μ : gMem} (hr0 : r0 < 1) (h : (((20 : Int32) ≤ x1) → ∀ μ_2 : gMem, μ_2 = gsI μ 10 r0 50 ((μ.1 10 r0 50) - (1 : Int32)) → pt_X10_keepNow_2 l D d q Γ r0 μ_2) ∧ ((¬ (20 : Int32) ≤ x1) → ∃ (d_3 : Nat) (q_4 : gMem → Prop), d_3 < d ∧ Ctr l D d_3 yX10_copies cX10_copies 6 none [.ref (D.2.2 10 r0), .int (((3 : Int32) + x1) - (1 : Int32)), .int ((3 : Int32) + x1)] μ (pV q_4) ∧ ∀ (μ_7 : gMem), q_4 μ_7 → ∀ x1_10 : Int32, x1_10 = x1 + (1 : Int32) → pt_X10_keepNow_1 l D d q Γ r0 x1_10 μ_7)) : pt_X10_keepNow_1 l D d q Γ r0 x1 μ := by
  unfold pt_X10_keepNow_1
  refine g_iload_n dX10_keepNow_11 rfl ?_
  refine g_bipush (20 : Int32) dX10_keepNow_12 rfl ?_
  refine g_icmp_ge (tgt := 35) dX10_keepNow_14 (by decide) (fun c_1 => ?_) (fun c_1 => ?_)
  · have h := h.1 c_1
    refine g_aload_n dX10_keepNow_35 rfl ?_
    refine g_dup dX10_keepNow_36 rfl ?_
    refine g_gfI fi_10_305 hr0 dX10_keepNow_37 ?_
    refine g_iconst (1 : Int32) dX10_keepNow_40 rfl ?_
    refine g_isub dX10_keepNow_41 ?_
    refine g_pfI fi_10_305 hr0 rfl rfl dX10_keepNow_42 ?_
    obtain ⟨μ_2, eμ_2⟩ : ∃ z : gMem, z = gsI μ 10 r0 50 ((μ.1 10 r0 50) - (1 : Int32)) := ⟨_, rfl⟩
    have h := h μ_2 eμ_2
    refine g_mem eμ_2.symm ?_
    exact g_sub [0] rfl h
  · have h := h.2 c_1
    refine g_aload_n dX10_keepNow_17 rfl ?_
    refine g_iconst (3 : Int32) dX10_keepNow_18 rfl ?_
    refine g_iload_n dX10_keepNow_19 rfl ?_
    refine g_iadd dX10_keepNow_20 ?_
    refine g_iconst (1 : Int32) dX10_keepNow_21 rfl ?_
    refine g_isub dX10_keepNow_22 ?_
    refine g_iconst (3 : Int32) dX10_keepNow_23 rfl ?_
    refine g_iload_n dX10_keepNow_24 rfl ?_
    refine g_iadd dX10_keepNow_25 ?_
    obtain ⟨d_3, q_4, hd_5, hc_6, h⟩ := h
    refine g_cV ca_X10_387 ob_10 hc_6 hd_5 (by decide) hr0 rfl rfl (by first | exact Nat.le_of_ble_eq_true rfl | decide) dX10_keepNow_26 (kV (fun μ_7 hq_9 => ?_))
    have h := h μ_7 hq_9
    refine g_iinc dX10_keepNow_29 rfl (by decide) (fun x1_10 ex1_10 => g_sub (lv' := [(0, .ref (D.2.2 10 r0)), (1, .int x1_10)]) [1, 0] rfl ?_)
    have h := h x1_10 ex1_10
    refine g_goto (tgt := 11) dX10_keepNow_32 (by decide) ?_
    exact g_sub [0, 1] rfl h
set_option maxRecDepth 20000 in
set_option maxHeartbeats 4000000 in
theorem bl_X10_keepNow_2 {l : Launch} {D : gD} {d : Nat} {q : gMem → Prop} {Γ : gC} {r0 : Nat} {μ : gMem} (hr0 : r0 < 1) (h : ∃ (d_1 : Nat) (q_2 : gMem → Prop), d_1 < d ∧ Ctr l D d_1 yX10_copies cX10_copies 6 none [.ref (D.2.2 10 r0), .int ((3 : Int32) + (μ.1 10 r0 50)), .int (0 : Int32)] μ (pV q_2) ∧ ∀ (μ_5 : gMem), q_2 μ_5 → ∀ μ_8 : gMem, μ_8 = gsI μ_5 10 r0 50 ((μ_5.1 10 r0 50) + (1 : Int32)) → q μ_8) : pt_X10_keepNow_2 l D d q Γ r0 μ := by
  unfold pt_X10_keepNow_2
  refine g_aload_n dX10_keepNow_45 rfl ?_
  refine g_iconst (3 : Int32) dX10_keepNow_46 rfl ?_
  refine g_aload_n dX10_keepNow_47 rfl ?_
  refine g_gfI fi_10_305 hr0 dX10_keepNow_48 ?_
  refine g_iadd dX10_keepNow_51 ?_
  refine g_iconst (0 : Int32) dX10_keepNow_52 rfl ?_
  obtain ⟨d_1, q_2, hd_3, hc_4, h⟩ := h
  refine g_cV ca_X10_387 ob_10 hc_4 hd_3 (by decide) hr0 rfl rfl (by first | exact Nat.le_of_ble_eq_true rfl | decide) dX10_keepNow_53 (kV (fun μ_5 hq_7 => ?_))
  have h := h μ_5 hq_7
  refine g_aload_n dX10_keepNow_56 rfl ?_
  refine g_dup dX10_keepNow_57 rfl ?_
  refine g_gfI fi_10_305 hr0 dX10_keepNow_58 ?_
  refine g_iconst (1 : Int32) dX10_keepNow_61 rfl ?_
  refine g_iadd dX10_keepNow_62 ?_
  refine g_pfI fi_10_305 hr0 rfl rfl dX10_keepNow_63 ?_
  obtain ⟨μ_8, eμ_8⟩ : ∃ z : gMem, z = gsI μ_5 10 r0 50 ((μ_5.1 10 r0 50) + (1 : Int32)) := ⟨_, rfl⟩
  have h := h μ_8 eμ_8
  refine g_mem eμ_8.symm ?_
  exact g_vret dX10_keepNow_66 rfl ⟨rfl, h⟩
theorem en_X10_keepNow {l : Launch} {D : gD} {d : Nat} {q : gMem → Prop} {r0 : Nat} {μ : gMem} (h : ∀ Γ : gC, pt_X10_keepNow_0 l D d q Γ r0 μ) : Ctr l D d yX10_keepNow cX10_keepNow 2 none [.ref (D.2.2 10 r0)] μ (pV q) :=
  Ctr_of rfl (by decide) (Nat.le_of_ble_eq_true rfl) (fun Γ => g_sub [0] rfl (h Γ))
def pt_X10_wear_0 (l : Launch) (D : gD) (d : Nat) (q : Int32 → gMem → Prop) (Γ : gC) (r0 : Nat) (x1 : Int32) (x2 : Int32) (μ : gMem) : Prop := G l D RX10 cX10_wear 3 (some .boolean) d (pI q) Γ 0 [(0, .ref (D.2.2 10 r0)), (1, .int x1), (2, .int x2)] [] μ
def pt_X10_wear_1 (l : Launch) (D : gD) (d : Nat) (q : Int32 → gMem → Prop) (Γ : gC) (r0 : Nat) (x1 : Int32) (x2 : Int32) (xs0 : Int32) (μ : gMem) : Prop := G l D RX10 cX10_wear 3 (some .boolean) d (pI q) Γ 28 [(0, .ref (D.2.2 10 r0)), (1, .int x1), (2, .int x2)] [.int xs0] μ
def pt_X10_wear_2 (l : Launch) (D : gD) (d : Nat) (q : Int32 → gMem → Prop) (Γ : gC) (rs0 : Nat) (xs1 : Int32) (xs2 : Int32) (μ : gMem) : Prop := G l D RX10 cX10_wear 3 (some .boolean) d (pI q) Γ 52 [] [.int xs2, .int xs1, .ref (D.2.2 747 rs0)] μ
set_option maxRecDepth 20000 in
set_option maxHeartbeats 4000000 in
theorem bl_X10_wear_0 {l : Launch} {D : gD} {d : Nat} {q : Int32 → gMem → Prop} {Γ : gC} {r0 : Nat} {x1 : Int32} {x2 : Int32} {μ : gMem} (hr0 : r0 < 1) (h : ∀ μ_1 : gMem, μ_1 = gsI μ 10 r0 0 (0 : Int32) → (0 < d) ∧ ((((isn x1 (μ_1.1 707 r0 0)) = 0) → q (0 : Int32) μ_1) ∧ ((¬ (isn x1 (μ_1.1 707 r0 0)) = 0) → ∃ j_7 : Nat, j_7 < 115 ∧ x1 = nI j_7 ∧ (((¬ (μ_1.1 747 r0 j_7) = (1 : Int32)) → pt_X10_wear_1 l D d q Γ r0 x1 x2 (0 : Int32) μ_1) ∧ (((μ_1.1 747 r0 j_7) = (1 : Int32)) → pt_X10_wear_1 l D d q Γ r0 x1 x2 (1 : Int32) μ_1))))) : pt_X10_wear_0 l D d q Γ r0 x1 x2 μ := by
  unfold pt_X10_wear_0
  refine g_aload_n dX10_wear_0 rfl ?_
  refine g_iconst (0 : Int32) dX10_wear_1 rfl ?_
  refine g_pfI fi_10_145 hr0 rfl rfl dX10_wear_2 ?_
  obtain ⟨μ_1, eμ_1⟩ : ∃ z : gMem, z = gsI μ 10 r0 0 (0 : Int32) := ⟨_, rfl⟩
  have h := h μ_1 eμ_1
  refine g_mem eμ_1.symm ?_
  refine g_aload_n dX10_wear_5 rfl ?_
  refine g_iload_n dX10_wear_6 rfl ?_
  obtain ⟨hd_2, h⟩ := h
  refine g_cV ca_X10_394 ob_10 (c_X10_isMan (d := 0) (Nat.le_refl _) hr0 ) hd_2 (by decide) hr0 rfl rfl (by first | exact Nat.le_of_ble_eq_true rfl | decide) dX10_wear_7 (kI (fun v_3 μ_4 hq_5 => ?_))
  obtain ⟨ev_3, eμ_4⟩ := hq_5
  subst ev_3
  refine g_mem eμ_4 ?_
  refine g_if_eq (tgt := 32) dX10_wear_10 (by decide) (fun c_6 => ?_) (fun c_6 => ?_)
  · have h := h.1 c_6
    refine g_iconst (0 : Int32) dX10_wear_32 rfl ?_
    exact g_iret dX10_wear_33 rfl rfl ⟨_, rfl, h⟩
  · have h := h.2 c_6
    refine g_aload_n dX10_wear_13 rfl ?_
    refine g_gfR fl_10_96 rfl hr0 dX10_wear_14 ?_
    refine g_iload_n dX10_wear_17 rfl ?_
    obtain ⟨j_7, hj_7, ej_7, h⟩ := h
    refine g_iald j_7 hr0 rfl hj_7 (by decide) ej_7 dX10_wear_18 ?_
    refine g_iconst (1 : Int32) dX10_wear_19 rfl ?_
    refine g_icmp_ne (tgt := 27) dX10_wear_20 (by decide) (fun c_8 => ?_) (fun c_8 => ?_)
    · have h := h.1 c_8
      refine g_iconst (0 : Int32) dX10_wear_27 rfl ?_
      exact g_sub [0, 1, 2] rfl h
    · have h := h.2 c_8
      refine g_iconst (1 : Int32) dX10_wear_23 rfl ?_
      refine g_goto (tgt := 28) dX10_wear_24 (by decide) ?_
      exact g_sub [0, 1, 2] rfl h
set_option maxRecDepth 20000 in
set_option maxHeartbeats 4000000 in
theorem bl_X10_wear_1 {l : Launch} {D : gD} {d : Nat} {q : Int32 → gMem → Prop} {Γ : gC} {r0 : Nat} {x1 : Int32} {x2 : Int32} {xs0 : Int32} {μ : gMem} (hr0 : r0 < 1) (h : ((¬ xs0 = x2) → ∃ (d_2 : Nat) (q_3 : gMem → Prop), d_2 < d ∧ Ctr l D d_2 yX10_keepNow cX10_keepNow 2 none [.ref (D.2.2 10 r0)] μ (pV q_3) ∧ ∀ (μ_6 : gMem), q_3 μ_6 → ((x2 = 0) → pt_X10_wear_2 l D d q Γ r0 x1 (0 : Int32) μ_6) ∧ ((¬ x2 = 0) → pt_X10_wear_2 l D d q Γ r0 x1 (1 : Int32) μ_6)) ∧ ((xs0 = x2) → q (0 : Int32) μ)) : pt_X10_wear_1 l D d q Γ r0 x1 x2 xs0 μ := by
  unfold pt_X10_wear_1
  refine g_iload_n dX10_wear_28 rfl ?_
  refine g_icmp_ne (tgt := 34) dX10_wear_29 (by decide) (fun c_1 => ?_) (fun c_1 => ?_)
  · have h := h.1 c_1
    refine g_aload_n dX10_wear_34 rfl ?_
    obtain ⟨d_2, q_3, hd_4, hc_5, h⟩ := h
    refine g_cV ca_X10_404 ob_10 hc_5 hd_4 (by decide) hr0 rfl rfl (by first | exact Nat.le_of_ble_eq_true rfl | decide) dX10_wear_35 (kV (fun μ_6 hq_8 => ?_))
    have h := h μ_6 hq_8
    refine g_aload_n dX10_wear_38 rfl ?_
    refine g_gfR fl_10_96 rfl hr0 dX10_wear_39 ?_
    refine g_iload_n dX10_wear_42 rfl ?_
    refine g_iload_n dX10_wear_43 rfl ?_
    refine g_if_eq (tgt := 51) dX10_wear_44 (by decide) (fun c_9 => ?_) (fun c_9 => ?_)
    · have h := h.1 c_9
      refine g_iconst (0 : Int32) dX10_wear_51 rfl ?_
      exact g_sub [] rfl h
    · have h := h.2 c_9
      refine g_iconst (1 : Int32) dX10_wear_47 rfl ?_
      refine g_goto (tgt := 52) dX10_wear_48 (by decide) ?_
      exact g_sub [] rfl h
  · have h := h.2 c_1
    refine g_iconst (0 : Int32) dX10_wear_32 rfl ?_
    exact g_iret dX10_wear_33 rfl rfl ⟨_, rfl, h⟩
set_option maxRecDepth 20000 in
set_option maxHeartbeats 4000000 in
theorem bl_X10_wear_2 {l : Launch} {D : gD} {d : Nat} {q : Int32 → gMem → Prop} {Γ : gC} {rs0 : Nat} {xs1 : Int32} {xs2 : Int32} {μ : gMem} (hrs0 : rs0 < 1) (h : ∃ j_1 : Nat, j_1 < 115 ∧ xs1 = nI j_1 ∧ (∀ μ_2 : gMem, μ_2 = gsI μ 747 rs0 j_1 xs2 → q (1 : Int32) μ_2)) : pt_X10_wear_2 l D d q Γ rs0 xs1 xs2 μ := by
  unfold pt_X10_wear_2
  obtain ⟨j_1, hj_1, ej_1, h⟩ := h
  refine g_iast j_1 hrs0 rfl hj_1 (by decide) ej_1 dX10_wear_52 ?_
  obtain ⟨μ_2, eμ_2⟩ : ∃ z : gMem, z = gsI μ 747 rs0 j_1 xs2 := ⟨_, rfl⟩
  have h := h μ_2 eμ_2
  refine g_mem eμ_2.symm ?_
  refine g_iconst (1 : Int32) dX10_wear_53 rfl ?_
  exact g_iret dX10_wear_54 rfl rfl ⟨_, rfl, h⟩
theorem en_X10_wear {l : Launch} {D : gD} {d : Nat} {q : Int32 → gMem → Prop} {r0 : Nat} {x1 : Int32} {x2 : Int32} {μ : gMem} (h : ∀ Γ : gC, pt_X10_wear_0 l D d q Γ r0 x1 x2 μ) : Ctr l D d yX10_wear cX10_wear 3 (some .boolean) [.ref (D.2.2 10 r0), .int x1, .int x2] μ (pI q) :=
  Ctr_of rfl (by decide) (Nat.le_of_ble_eq_true rfl) (fun Γ => g_sub [0, 1, 2] rfl (h Γ))
def pt_X10_goal_0 (l : Launch) (D : gD) (d : Nat) (q : Int32 → gMem → Prop) (Γ : gC) (r0 : Nat) (x1 : Int32) (x2 : Int32) (μ : gMem) : Prop := G l D RX10 cX10_goal 3 (some .boolean) d (pI q) Γ 0 [(0, .ref (D.2.2 10 r0)), (1, .int x1), (2, .int x2)] [] μ
set_option maxRecDepth 20000 in
set_option maxHeartbeats 4000000 in
theorem bl_X10_goal_0 {l : Launch} {D : gD} {d : Nat} {q : Int32 → gMem → Prop} {Γ : gC} {r0 : Nat} {x1 : Int32} {x2 : Int32} {μ : gMem} (hr0 : r0 < 1) (h : ∀ μ_1 : gMem, μ_1 = gsI μ 10 r0 0 (0 : Int32) → (0 < d) ∧ ((((isn x1 (μ_1.1 707 r0 0)) = 0) → q (0 : Int32) μ_1) ∧ ((¬ (isn x1 (μ_1.1 707 r0 0)) = 0) → ((x2 < 0) → q (0 : Int32) μ_1) ∧ ((¬ x2 < 0) → (((99 : Int32) < x2) → q (0 : Int32) μ_1) ∧ ((¬ (99 : Int32) < x2) → ∃ j_9 : Nat, j_9 < 115 ∧ x1 = nI j_9 ∧ (((¬ (μ_1.1 740 r0 j_9) = x2) → ∃ (d_11 : Nat) (q_12 : gMem → Prop), d_11 < d ∧ Ctr l D d_11 yX10_keepNow cX10_keepNow 2 none [.ref (D.2.2 10 r0)] μ_1 (pV q_12) ∧ ∀ (μ_15 : gMem), q_12 μ_15 → ∃ j_18 : Nat, j_18 < 115 ∧ x1 = nI j_18 ∧ (∀ μ_19 : gMem, μ_19 = gsI μ_15 740 r0 j_18 x2 → q (1 : Int32) μ_19)) ∧ (((μ_1.1 740 r0 j_9) = x2) → q (0 : Int32) μ_1))))))) : pt_X10_goal_0 l D d q Γ r0 x1 x2 μ := by
  unfold pt_X10_goal_0
  refine g_aload_n dX10_goal_0 rfl ?_
  refine g_iconst (0 : Int32) dX10_goal_1 rfl ?_
  refine g_pfI fi_10_145 hr0 rfl rfl dX10_goal_2 ?_
  obtain ⟨μ_1, eμ_1⟩ : ∃ z : gMem, z = gsI μ 10 r0 0 (0 : Int32) := ⟨_, rfl⟩
  have h := h μ_1 eμ_1
  refine g_mem eμ_1.symm ?_
  refine g_aload_n dX10_goal_5 rfl ?_
  refine g_iload_n dX10_goal_6 rfl ?_
  obtain ⟨hd_2, h⟩ := h
  refine g_cV ca_X10_394 ob_10 (c_X10_isMan (d := 0) (Nat.le_refl _) hr0 ) hd_2 (by decide) hr0 rfl rfl (by first | exact Nat.le_of_ble_eq_true rfl | decide) dX10_goal_7 (kI (fun v_3 μ_4 hq_5 => ?_))
  obtain ⟨ev_3, eμ_4⟩ := hq_5
  subst ev_3
  refine g_mem eμ_4 ?_
  refine g_if_eq (tgt := 33) dX10_goal_10 (by decide) (fun c_6 => ?_) (fun c_6 => ?_)
  · have h := h.1 c_6
    refine g_iconst (0 : Int32) dX10_goal_33 rfl ?_
    exact g_iret dX10_goal_34 rfl rfl ⟨_, rfl, h⟩
  · have h := h.2 c_6
    refine g_iload_n dX10_goal_13 rfl ?_
    refine g_if_lt (tgt := 33) dX10_goal_14 (by decide) (fun c_7 => ?_) (fun c_7 => ?_)
    · have h := h.1 c_7
      refine g_iconst (0 : Int32) dX10_goal_33 rfl ?_
      exact g_iret dX10_goal_34 rfl rfl ⟨_, rfl, h⟩
    · have h := h.2 c_7
      refine g_iload_n dX10_goal_17 rfl ?_
      refine g_bipush (99 : Int32) dX10_goal_18 rfl ?_
      refine g_icmp_gt (tgt := 33) dX10_goal_20 (by decide) (fun c_8 => ?_) (fun c_8 => ?_)
      · have h := h.1 c_8
        refine g_iconst (0 : Int32) dX10_goal_33 rfl ?_
        exact g_iret dX10_goal_34 rfl rfl ⟨_, rfl, h⟩
      · have h := h.2 c_8
        refine g_aload_n dX10_goal_23 rfl ?_
        refine g_gfR fl_10_75 rfl hr0 dX10_goal_24 ?_
        refine g_iload_n dX10_goal_27 rfl ?_
        obtain ⟨j_9, hj_9, ej_9, h⟩ := h
        refine g_iald j_9 hr0 rfl hj_9 (by decide) ej_9 dX10_goal_28 ?_
        refine g_iload_n dX10_goal_29 rfl ?_
        refine g_icmp_ne (tgt := 35) dX10_goal_30 (by decide) (fun c_10 => ?_) (fun c_10 => ?_)
        · have h := h.1 c_10
          refine g_aload_n dX10_goal_35 rfl ?_
          obtain ⟨d_11, q_12, hd_13, hc_14, h⟩ := h
          refine g_cV ca_X10_404 ob_10 hc_14 hd_13 (by decide) hr0 rfl rfl (by first | exact Nat.le_of_ble_eq_true rfl | decide) dX10_goal_36 (kV (fun μ_15 hq_17 => ?_))
          have h := h μ_15 hq_17
          refine g_aload_n dX10_goal_39 rfl ?_
          refine g_gfR fl_10_75 rfl hr0 dX10_goal_40 ?_
          refine g_iload_n dX10_goal_43 rfl ?_
          refine g_iload_n dX10_goal_44 rfl ?_
          obtain ⟨j_18, hj_18, ej_18, h⟩ := h
          refine g_iast j_18 hr0 rfl hj_18 (by decide) ej_18 dX10_goal_45 ?_
          obtain ⟨μ_19, eμ_19⟩ : ∃ z : gMem, z = gsI μ_15 740 r0 j_18 x2 := ⟨_, rfl⟩
          have h := h μ_19 eμ_19
          refine g_mem eμ_19.symm ?_
          refine g_iconst (1 : Int32) dX10_goal_46 rfl ?_
          exact g_iret dX10_goal_47 rfl rfl ⟨_, rfl, h⟩
        · have h := h.2 c_10
          refine g_iconst (0 : Int32) dX10_goal_33 rfl ?_
          exact g_iret dX10_goal_34 rfl rfl ⟨_, rfl, h⟩
theorem en_X10_goal {l : Launch} {D : gD} {d : Nat} {q : Int32 → gMem → Prop} {r0 : Nat} {x1 : Int32} {x2 : Int32} {μ : gMem} (h : ∀ Γ : gC, pt_X10_goal_0 l D d q Γ r0 x1 x2 μ) : Ctr l D d yX10_goal cX10_goal 3 (some .boolean) [.ref (D.2.2 10 r0), .int x1, .int x2] μ (pI q) :=
  Ctr_of rfl (by decide) (Nat.le_of_ble_eq_true rfl) (fun Γ => g_sub [0, 1, 2] rfl (h Γ))
def pt_X10_plan_0 (l : Launch) (D : gD) (d : Nat) (q : Int32 → gMem → Prop) (Γ : gC) (r0 : Nat) (x1 : Int32) (x2 : Int32) (x3 : Int32) (μ : gMem) : Prop := G l D RX10 cX10_plan 4 (some .boolean) d (pI q) Γ 0 [(0, .ref (D.2.2 10 r0)), (1, .int x1), (2, .int x2), (3, .int x3)] [] μ
set_option maxRecDepth 20000 in
set_option maxHeartbeats 4000000 in
theorem bl_X10_plan_0 {l : Launch} {D : gD} {d : Nat} {q : Int32 → gMem → Prop} {Γ : gC} {r0 : Nat} {x1 : Int32} {x2 : Int32} {x3 : Int32} {μ : gMem} (hr0 : r0 < 1) (h : ∀ μ_1 : gMem, μ_1 = gsI μ 10 r0 0 (0 : Int32) → (0 < d) ∧ ((((isn x1 (μ_1.1 707 r0 0)) = 0) → q (0 : Int32) μ_1) ∧ ((¬ (isn x1 (μ_1.1 707 r0 0)) = 0) → (0 < d) ∧ ((((isn x2 (μ_1.1 707 r0 1)) = 0) → q (0 : Int32) μ_1) ∧ ((¬ (isn x2 (μ_1.1 707 r0 1)) = 0) → ((x3 < 0) → q (0 : Int32) μ_1) ∧ ((¬ x3 < 0) → (((9 : Int32) < x3) → q (0 : Int32) μ_1) ∧ ((¬ (9 : Int32) < x3) → ∃ j_14 : Nat, j_14 < 690 ∧ ((6 : Int32) * x1) + x2 = nI j_14 ∧ (((¬ (μ_1.1 751 r0 j_14) = x3) → ∃ (d_16 : Nat) (q_17 : gMem → Prop), d_16 < d ∧ Ctr l D d_16 yX10_keepNow cX10_keepNow 2 none [.ref (D.2.2 10 r0)] μ_1 (pV q_17) ∧ ∀ (μ_20 : gMem), q_17 μ_20 → ∃ j_23 : Nat, j_23 < 690 ∧ ((6 : Int32) * x1) + x2 = nI j_23 ∧ (∀ μ_24 : gMem, μ_24 = gsI μ_20 751 r0 j_23 x3 → q (1 : Int32) μ_24)) ∧ (((μ_1.1 751 r0 j_14) = x3) → q (0 : Int32) μ_1))))))))) : pt_X10_plan_0 l D d q Γ r0 x1 x2 x3 μ := by
  unfold pt_X10_plan_0
  refine g_aload_n dX10_plan_0 rfl ?_
  refine g_iconst (0 : Int32) dX10_plan_1 rfl ?_
  refine g_pfI fi_10_145 hr0 rfl rfl dX10_plan_2 ?_
  obtain ⟨μ_1, eμ_1⟩ : ∃ z : gMem, z = gsI μ 10 r0 0 (0 : Int32) := ⟨_, rfl⟩
  have h := h μ_1 eμ_1
  refine g_mem eμ_1.symm ?_
  refine g_aload_n dX10_plan_5 rfl ?_
  refine g_iload_n dX10_plan_6 rfl ?_
  obtain ⟨hd_2, h⟩ := h
  refine g_cV ca_X10_394 ob_10 (c_X10_isMan (d := 0) (Nat.le_refl _) hr0 ) hd_2 (by decide) hr0 rfl rfl (by first | exact Nat.le_of_ble_eq_true rfl | decide) dX10_plan_7 (kI (fun v_3 μ_4 hq_5 => ?_))
  obtain ⟨ev_3, eμ_4⟩ := hq_5
  subst ev_3
  refine g_mem eμ_4 ?_
  refine g_if_eq (tgt := 46) dX10_plan_10 (by decide) (fun c_6 => ?_) (fun c_6 => ?_)
  · have h := h.1 c_6
    refine g_iconst (0 : Int32) dX10_plan_46 rfl ?_
    exact g_iret dX10_plan_47 rfl rfl ⟨_, rfl, h⟩
  · have h := h.2 c_6
    refine g_aload_n dX10_plan_13 rfl ?_
    refine g_iload_n dX10_plan_14 rfl ?_
    obtain ⟨hd_7, h⟩ := h
    refine g_cV ca_X10_397 ob_10 (c_X10_isDeed (d := 0) (Nat.le_refl _) hr0 ) hd_7 (by decide) hr0 rfl rfl (by first | exact Nat.le_of_ble_eq_true rfl | decide) dX10_plan_15 (kI (fun v_8 μ_9 hq_10 => ?_))
    obtain ⟨ev_8, eμ_9⟩ := hq_10
    subst ev_8
    refine g_mem eμ_9 ?_
    refine g_if_eq (tgt := 46) dX10_plan_18 (by decide) (fun c_11 => ?_) (fun c_11 => ?_)
    · have h := h.1 c_11
      refine g_iconst (0 : Int32) dX10_plan_46 rfl ?_
      exact g_iret dX10_plan_47 rfl rfl ⟨_, rfl, h⟩
    · have h := h.2 c_11
      refine g_iload_n dX10_plan_21 rfl ?_
      refine g_if_lt (tgt := 46) dX10_plan_22 (by decide) (fun c_12 => ?_) (fun c_12 => ?_)
      · have h := h.1 c_12
        refine g_iconst (0 : Int32) dX10_plan_46 rfl ?_
        exact g_iret dX10_plan_47 rfl rfl ⟨_, rfl, h⟩
      · have h := h.2 c_12
        refine g_iload_n dX10_plan_25 rfl ?_
        refine g_bipush (9 : Int32) dX10_plan_26 rfl ?_
        refine g_icmp_gt (tgt := 46) dX10_plan_28 (by decide) (fun c_13 => ?_) (fun c_13 => ?_)
        · have h := h.1 c_13
          refine g_iconst (0 : Int32) dX10_plan_46 rfl ?_
          exact g_iret dX10_plan_47 rfl rfl ⟨_, rfl, h⟩
        · have h := h.2 c_13
          refine g_aload_n dX10_plan_31 rfl ?_
          refine g_gfR fl_10_108 rfl hr0 dX10_plan_32 ?_
          refine g_bipush (6 : Int32) dX10_plan_35 rfl ?_
          refine g_iload_n dX10_plan_37 rfl ?_
          refine g_imul dX10_plan_38 ?_
          refine g_iload_n dX10_plan_39 rfl ?_
          refine g_iadd dX10_plan_40 ?_
          obtain ⟨j_14, hj_14, ej_14, h⟩ := h
          refine g_iald j_14 hr0 rfl hj_14 (by decide) ej_14 dX10_plan_41 ?_
          refine g_iload_n dX10_plan_42 rfl ?_
          refine g_icmp_ne (tgt := 48) dX10_plan_43 (by decide) (fun c_15 => ?_) (fun c_15 => ?_)
          · have h := h.1 c_15
            refine g_aload_n dX10_plan_48 rfl ?_
            obtain ⟨d_16, q_17, hd_18, hc_19, h⟩ := h
            refine g_cV ca_X10_404 ob_10 hc_19 hd_18 (by decide) hr0 rfl rfl (by first | exact Nat.le_of_ble_eq_true rfl | decide) dX10_plan_49 (kV (fun μ_20 hq_22 => ?_))
            have h := h μ_20 hq_22
            refine g_aload_n dX10_plan_52 rfl ?_
            refine g_gfR fl_10_108 rfl hr0 dX10_plan_53 ?_
            refine g_bipush (6 : Int32) dX10_plan_56 rfl ?_
            refine g_iload_n dX10_plan_58 rfl ?_
            refine g_imul dX10_plan_59 ?_
            refine g_iload_n dX10_plan_60 rfl ?_
            refine g_iadd dX10_plan_61 ?_
            refine g_iload_n dX10_plan_62 rfl ?_
            obtain ⟨j_23, hj_23, ej_23, h⟩ := h
            refine g_iast j_23 hr0 rfl hj_23 (by decide) ej_23 dX10_plan_63 ?_
            obtain ⟨μ_24, eμ_24⟩ : ∃ z : gMem, z = gsI μ_20 751 r0 j_23 x3 := ⟨_, rfl⟩
            have h := h μ_24 eμ_24
            refine g_mem eμ_24.symm ?_
            refine g_iconst (1 : Int32) dX10_plan_64 rfl ?_
            exact g_iret dX10_plan_65 rfl rfl ⟨_, rfl, h⟩
          · have h := h.2 c_15
            refine g_iconst (0 : Int32) dX10_plan_46 rfl ?_
            exact g_iret dX10_plan_47 rfl rfl ⟨_, rfl, h⟩
theorem en_X10_plan {l : Launch} {D : gD} {d : Nat} {q : Int32 → gMem → Prop} {r0 : Nat} {x1 : Int32} {x2 : Int32} {x3 : Int32} {μ : gMem} (h : ∀ Γ : gC, pt_X10_plan_0 l D d q Γ r0 x1 x2 x3 μ) : Ctr l D d yX10_plan cX10_plan 4 (some .boolean) [.ref (D.2.2 10 r0), .int x1, .int x2, .int x3] μ (pI q) :=
  Ctr_of rfl (by decide) (Nat.le_of_ble_eq_true rfl) (fun Γ => g_sub [0, 1, 2, 3] rfl (h Γ))
def pt_X10_lend_0 (l : Launch) (D : gD) (d : Nat) (q : Int32 → gMem → Prop) (Γ : gC) (r0 : Nat) (x1 : Int32) (x2 : Int32) (μ : gMem) : Prop := G l D RX10 cX10_lend 3 (some .int) d (pI q) Γ 0 [(0, .ref (D.2.2 10 r0)), (1, .int x1), (2, .int x2)] [] μ
set_option maxRecDepth 20000 in
set_option maxHeartbeats 4000000 in
theorem bl_X10_lend_0 {l : Launch} {D : gD} {d : Nat} {q : Int32 → gMem → Prop} {Γ : gC} {r0 : Nat} {x1 : Int32} {x2 : Int32} {μ : gMem} (hr0 : r0 < 1) (h : ∀ μ_1 : gMem, μ_1 = gsI μ 10 r0 0 (0 : Int32) → (0 < d) ∧ ((((isn x1 (μ_1.1 707 r0 0)) = 0) → q (-1 : Int32) μ_1) ∧ ((¬ (isn x1 (μ_1.1 707 r0 0)) = 0) → ((x2 < (1 : Int32)) → q (-1 : Int32) μ_1) ∧ ((¬ x2 < (1 : Int32)) → (((99 : Int32) < x2) → q (-1 : Int32) μ_1) ∧ ((¬ (99 : Int32) < x2) → ∃ j_9 : Nat, j_9 < 115 ∧ x1 = nI j_9 ∧ (((((μ_1.1 748 r0 j_9) + x2) ≤ (999 : Int32)) → ∃ (d_11 : Nat) (q_12 : gMem → Prop), d_11 < d ∧ Ctr l D d_11 yX10_keepNow cX10_keepNow 2 none [.ref (D.2.2 10 r0)] μ_1 (pV q_12) ∧ ∀ (μ_15 : gMem), q_12 μ_15 → ∃ j_18 : Nat, j_18 < 115 ∧ x1 = nI j_18 ∧ (∃ j_19 : Nat, j_19 < 115 ∧ x1 = nI j_19 ∧ (∀ μ_20 : gMem, μ_20 = gsI μ_15 748 r0 j_19 ((μ_15.1 748 r0 j_18) + x2) → ∃ j_21 : Nat, j_21 < 115 ∧ x1 = nI j_21 ∧ (q (μ_20.1 748 r0 j_21) μ_20)))) ∧ ((¬ ((μ_1.1 748 r0 j_9) + x2) ≤ (999 : Int32)) → q (-1 : Int32) μ_1))))))) : pt_X10_lend_0 l D d q Γ r0 x1 x2 μ := by
  unfold pt_X10_lend_0
  refine g_aload_n dX10_lend_0 rfl ?_
  refine g_iconst (0 : Int32) dX10_lend_1 rfl ?_
  refine g_pfI fi_10_145 hr0 rfl rfl dX10_lend_2 ?_
  obtain ⟨μ_1, eμ_1⟩ : ∃ z : gMem, z = gsI μ 10 r0 0 (0 : Int32) := ⟨_, rfl⟩
  have h := h μ_1 eμ_1
  refine g_mem eμ_1.symm ?_
  refine g_aload_n dX10_lend_5 rfl ?_
  refine g_iload_n dX10_lend_6 rfl ?_
  obtain ⟨hd_2, h⟩ := h
  refine g_cV ca_X10_394 ob_10 (c_X10_isMan (d := 0) (Nat.le_refl _) hr0 ) hd_2 (by decide) hr0 rfl rfl (by first | exact Nat.le_of_ble_eq_true rfl | decide) dX10_lend_7 (kI (fun v_3 μ_4 hq_5 => ?_))
  obtain ⟨ev_3, eμ_4⟩ := hq_5
  subst ev_3
  refine g_mem eμ_4 ?_
  refine g_if_eq (tgt := 38) dX10_lend_10 (by decide) (fun c_6 => ?_) (fun c_6 => ?_)
  · have h := h.1 c_6
    refine g_iconst (-1 : Int32) dX10_lend_38 rfl ?_
    exact g_iret dX10_lend_39 rfl rfl ⟨_, rfl, h⟩
  · have h := h.2 c_6
    refine g_iload_n dX10_lend_13 rfl ?_
    refine g_iconst (1 : Int32) dX10_lend_14 rfl ?_
    refine g_icmp_lt (tgt := 38) dX10_lend_15 (by decide) (fun c_7 => ?_) (fun c_7 => ?_)
    · have h := h.1 c_7
      refine g_iconst (-1 : Int32) dX10_lend_38 rfl ?_
      exact g_iret dX10_lend_39 rfl rfl ⟨_, rfl, h⟩
    · have h := h.2 c_7
      refine g_iload_n dX10_lend_18 rfl ?_
      refine g_bipush (99 : Int32) dX10_lend_19 rfl ?_
      refine g_icmp_gt (tgt := 38) dX10_lend_21 (by decide) (fun c_8 => ?_) (fun c_8 => ?_)
      · have h := h.1 c_8
        refine g_iconst (-1 : Int32) dX10_lend_38 rfl ?_
        exact g_iret dX10_lend_39 rfl rfl ⟨_, rfl, h⟩
      · have h := h.2 c_8
        refine g_aload_n dX10_lend_24 rfl ?_
        refine g_gfR fl_10_99 rfl hr0 dX10_lend_25 ?_
        refine g_iload_n dX10_lend_28 rfl ?_
        obtain ⟨j_9, hj_9, ej_9, h⟩ := h
        refine g_iald j_9 hr0 rfl hj_9 (by decide) ej_9 dX10_lend_29 ?_
        refine g_iload_n dX10_lend_30 rfl ?_
        refine g_iadd dX10_lend_31 ?_
        refine g_sipush (999 : Int32) dX10_lend_32 rfl ?_
        refine g_icmp_le (tgt := 40) dX10_lend_35 (by decide) (fun c_10 => ?_) (fun c_10 => ?_)
        · have h := h.1 c_10
          refine g_aload_n dX10_lend_40 rfl ?_
          obtain ⟨d_11, q_12, hd_13, hc_14, h⟩ := h
          refine g_cV ca_X10_404 ob_10 hc_14 hd_13 (by decide) hr0 rfl rfl (by first | exact Nat.le_of_ble_eq_true rfl | decide) dX10_lend_41 (kV (fun μ_15 hq_17 => ?_))
          have h := h μ_15 hq_17
          refine g_aload_n dX10_lend_44 rfl ?_
          refine g_gfR fl_10_99 rfl hr0 dX10_lend_45 ?_
          refine g_iload_n dX10_lend_48 rfl ?_
          refine g_dup2 dX10_lend_49 rfl rfl ?_
          obtain ⟨j_18, hj_18, ej_18, h⟩ := h
          refine g_iald j_18 hr0 rfl hj_18 (by decide) ej_18 dX10_lend_50 ?_
          refine g_iload_n dX10_lend_51 rfl ?_
          refine g_iadd dX10_lend_52 ?_
          obtain ⟨j_19, hj_19, ej_19, h⟩ := h
          refine g_iast j_19 hr0 rfl hj_19 (by decide) ej_19 dX10_lend_53 ?_
          obtain ⟨μ_20, eμ_20⟩ : ∃ z : gMem, z = gsI μ_15 748 r0 j_19 ((μ_15.1 748 r0 j_18) + x2) := ⟨_, rfl⟩
          have h := h μ_20 eμ_20
          refine g_mem eμ_20.symm ?_
          refine g_aload_n dX10_lend_54 rfl ?_
          refine g_gfR fl_10_99 rfl hr0 dX10_lend_55 ?_
          refine g_iload_n dX10_lend_58 rfl ?_
          obtain ⟨j_21, hj_21, ej_21, h⟩ := h
          refine g_iald j_21 hr0 rfl hj_21 (by decide) ej_21 dX10_lend_59 ?_
          exact g_iret dX10_lend_60 rfl rfl ⟨_, rfl, h⟩
        · have h := h.2 c_10
          refine g_iconst (-1 : Int32) dX10_lend_38 rfl ?_
          exact g_iret dX10_lend_39 rfl rfl ⟨_, rfl, h⟩
theorem en_X10_lend {l : Launch} {D : gD} {d : Nat} {q : Int32 → gMem → Prop} {r0 : Nat} {x1 : Int32} {x2 : Int32} {μ : gMem} (h : ∀ Γ : gC, pt_X10_lend_0 l D d q Γ r0 x1 x2 μ) : Ctr l D d yX10_lend cX10_lend 3 (some .int) [.ref (D.2.2 10 r0), .int x1, .int x2] μ (pI q) :=
  Ctr_of rfl (by decide) (Nat.le_of_ble_eq_true rfl) (fun Γ => g_sub [0, 1, 2] rfl (h Γ))
def pt_X10_go_0 (l : Launch) (D : gD) (d : Nat) (q : Int32 → gMem → Prop) (Γ : gC) (r0 : Nat) (x1 : Int32) (μ : gMem) : Prop := G l D RX10 cX10_go 3 (some .int) d (pI q) Γ 0 [(0, .ref (D.2.2 10 r0)), (1, .int x1)] [] μ
def pt_X10_go_1 (l : Launch) (D : gD) (d : Nat) (q : Int32 → gMem → Prop) (Γ : gC) (r0 : Nat) (x1 : Int32) (μ : gMem) : Prop := G l D RX10 cX10_go 3 (some .int) d (pI q) Γ 40 [(0, .ref (D.2.2 10 r0)), (1, .int x1)] [] μ
def pt_X10_go_2 (l : Launch) (D : gD) (d : Nat) (q : Int32 → gMem → Prop) (Γ : gC) (r0 : Nat) (x1 : Int32) (x2 : Int32) (μ : gMem) : Prop := G l D RX10 cX10_go 3 (some .int) d (pI q) Γ 42 [(0, .ref (D.2.2 10 r0)), (1, .int x1), (2, .int x2)] [] μ
set_option maxRecDepth 20000 in
set_option maxHeartbeats 4000000 in
theorem bl_X10_go_0 {l : Launch} {D : gD} {d : Nat} {q : Int32 → gMem → Prop} {Γ : gC} {r0 : Nat} {x1 : Int32} {μ : gMem} (hr0 : r0 < 1) (h : ∀ μ_1 : gMem, μ_1 = gsI μ 10 r0 0 (0 : Int32) → ((x1 < 0) → q (-1 : Int32) μ_1) ∧ ((¬ x1 < 0) → (((99 : Int32) < x1) → q (-1 : Int32) μ_1) ∧ ((¬ (99 : Int32) < x1) → ((((μ_1.1 737 r0 0) + x1) ≤ (9900 : Int32)) → ((x1 ≤ 0) → pt_X10_go_1 l D d q Γ r0 x1 μ_1) ∧ ((¬ x1 ≤ 0) → ∀ μ_7 : gMem, μ_7 = gsI μ_1 10 r0 50 (0 : Int32) → pt_X10_go_1 l D d q Γ r0 x1 μ_7)) ∧ ((¬ ((μ_1.1 737 r0 0) + x1) ≤ (9900 : Int32)) → q (-1 : Int32) μ_1)))) : pt_X10_go_0 l D d q Γ r0 x1 μ := by
  unfold pt_X10_go_0
  refine g_aload_n dX10_go_0 rfl ?_
  refine g_iconst (0 : Int32) dX10_go_1 rfl ?_
  refine g_pfI fi_10_145 hr0 rfl rfl dX10_go_2 ?_
  obtain ⟨μ_1, eμ_1⟩ : ∃ z : gMem, z = gsI μ 10 r0 0 (0 : Int32) := ⟨_, rfl⟩
  have h := h μ_1 eμ_1
  refine g_mem eμ_1.symm ?_
  refine g_iload_n dX10_go_5 rfl ?_
  refine g_if_lt (tgt := 29) dX10_go_6 (by decide) (fun c_2 => ?_) (fun c_2 => ?_)
  · have h := h.1 c_2
    refine g_iconst (-1 : Int32) dX10_go_29 rfl ?_
    exact g_iret dX10_go_30 rfl rfl ⟨_, rfl, h⟩
  · have h := h.2 c_2
    refine g_iload_n dX10_go_9 rfl ?_
    refine g_bipush (99 : Int32) dX10_go_10 rfl ?_
    refine g_icmp_gt (tgt := 29) dX10_go_12 (by decide) (fun c_3 => ?_) (fun c_3 => ?_)
    · have h := h.1 c_3
      refine g_iconst (-1 : Int32) dX10_go_29 rfl ?_
      exact g_iret dX10_go_30 rfl rfl ⟨_, rfl, h⟩
    · have h := h.2 c_3
      refine g_aload_n dX10_go_15 rfl ?_
      refine g_gfR fl_10_66 rfl hr0 dX10_go_16 ?_
      refine g_iconst (0 : Int32) dX10_go_19 rfl ?_
      refine g_iald 0 hr0 rfl (by decide) (by decide) rfl dX10_go_20 ?_
      refine g_iload_n dX10_go_21 rfl ?_
      refine g_iadd dX10_go_22 ?_
      refine g_sipush (9900 : Int32) dX10_go_23 rfl ?_
      refine g_icmp_le (tgt := 31) dX10_go_26 (by decide) (fun c_5 => ?_) (fun c_5 => ?_)
      · have h := h.1 c_5
        refine g_iload_n dX10_go_31 rfl ?_
        refine g_if_le (tgt := 40) dX10_go_32 (by decide) (fun c_6 => ?_) (fun c_6 => ?_)
        · have h := h.1 c_6
          exact g_sub [0, 1] rfl h
        · have h := h.2 c_6
          refine g_aload_n dX10_go_35 rfl ?_
          refine g_iconst (0 : Int32) dX10_go_36 rfl ?_
          refine g_pfI fi_10_305 hr0 rfl rfl dX10_go_37 ?_
          obtain ⟨μ_7, eμ_7⟩ : ∃ z : gMem, z = gsI μ_1 10 r0 50 (0 : Int32) := ⟨_, rfl⟩
          have h := h μ_7 eμ_7
          refine g_mem eμ_7.symm ?_
          exact g_sub [0, 1] rfl h
      · have h := h.2 c_5
        refine g_iconst (-1 : Int32) dX10_go_29 rfl ?_
        exact g_iret dX10_go_30 rfl rfl ⟨_, rfl, h⟩
set_option maxRecDepth 20000 in
set_option maxHeartbeats 4000000 in
theorem bl_X10_go_1 {l : Launch} {D : gD} {d : Nat} {q : Int32 → gMem → Prop} {Γ : gC} {r0 : Nat} {x1 : Int32} {μ : gMem} (hr0 : r0 < 1) (h : ∀ x2_1 : Int32, x2_1 = (0 : Int32) → pt_X10_go_2 l D d q Γ r0 x1 x2_1 μ) : pt_X10_go_1 l D d q Γ r0 x1 μ := by
  unfold pt_X10_go_1
  refine g_iconst (0 : Int32) dX10_go_40 rfl ?_
  refine g_istore_n dX10_go_41 (by decide) (fun x2_1 ex2_1 => g_sub (lv' := [(0, .ref (D.2.2 10 r0)), (1, .int x1), (2, .int x2_1)]) [1, 2, 0] rfl ?_)
  have h := h x2_1 ex2_1
  exact g_sub [0, 1, 2] rfl h
set_option maxRecDepth 20000 in
set_option maxHeartbeats 4000000 in
theorem bl_X10_go_2 {l : Launch} {D : gD} {d : Nat} {q : Int32 → gMem → Prop} {Γ : gC} {r0 : Nat} {x1 : Int32} {x2 : Int32} {μ : gMem} (hr0 : r0 < 1) (h : ((x1 ≤ x2) → q (μ.1 737 r0 0) μ) ∧ ((¬ x1 ≤ x2) → ∃ (d_3 : Nat) (q_4 : gMem → Prop), d_3 < d ∧ Ctr l D d_3 yX10_passes cX10_passes 6 none [.ref (D.2.2 10 r0), .int (0 : Int32), .int (1 : Int32)] μ (pV q_4) ∧ ∀ (μ_7 : gMem), q_4 μ_7 → ∀ x2_10 : Int32, x2_10 = x2 + (1 : Int32) → pt_X10_go_2 l D d q Γ r0 x1 x2_10 μ_7)) : pt_X10_go_2 l D d q Γ r0 x1 x2 μ := by
  unfold pt_X10_go_2
  refine g_iload_n dX10_go_42 rfl ?_
  refine g_iload_n dX10_go_43 rfl ?_
  refine g_icmp_ge (tgt := 59) dX10_go_44 (by decide) (fun c_1 => ?_) (fun c_1 => ?_)
  · have h := h.1 c_1
    refine g_aload_n dX10_go_59 rfl ?_
    refine g_gfR fl_10_66 rfl hr0 dX10_go_60 ?_
    refine g_iconst (0 : Int32) dX10_go_63 rfl ?_
    refine g_iald 0 hr0 rfl (by decide) (by decide) rfl dX10_go_64 ?_
    exact g_iret dX10_go_65 rfl rfl ⟨_, rfl, h⟩
  · have h := h.2 c_1
    refine g_aload_n dX10_go_47 rfl ?_
    refine g_iconst (0 : Int32) dX10_go_48 rfl ?_
    refine g_iconst (1 : Int32) dX10_go_49 rfl ?_
    obtain ⟨d_3, q_4, hd_5, hc_6, h⟩ := h
    refine g_cV ca_X10_390 ob_10 hc_6 hd_5 (by decide) hr0 rfl rfl (by first | exact Nat.le_of_ble_eq_true rfl | decide) dX10_go_50 (kV (fun μ_7 hq_9 => ?_))
    have h := h μ_7 hq_9
    refine g_iinc dX10_go_53 rfl (by decide) (fun x2_10 ex2_10 => g_sub (lv' := [(0, .ref (D.2.2 10 r0)), (1, .int x1), (2, .int x2_10)]) [1, 2, 0] rfl ?_)
    have h := h x2_10 ex2_10
    refine g_goto (tgt := 42) dX10_go_56 (by decide) ?_
    exact g_sub [0, 1, 2] rfl h
theorem en_X10_go {l : Launch} {D : gD} {d : Nat} {q : Int32 → gMem → Prop} {r0 : Nat} {x1 : Int32} {μ : gMem} (h : ∀ Γ : gC, pt_X10_go_0 l D d q Γ r0 x1 μ) : Ctr l D d yX10_go cX10_go 3 (some .int) [.ref (D.2.2 10 r0), .int x1] μ (pI q) :=
  Ctr_of rfl (by decide) (Nat.le_of_ble_eq_true rfl) (fun Γ => g_sub [0, 1] rfl (h Γ))
def pt_X10_ahead_0 (l : Launch) (D : gD) (d : Nat) (q : Int32 → gMem → Prop) (Γ : gC) (r0 : Nat) (x1 : Int32) (x2 : Int32) (x3 : Int32) (μ : gMem) : Prop := G l D RX10 cX10_ahead 5 (some .int) d (pI q) Γ 0 [(0, .ref (D.2.2 10 r0)), (1, .int x1), (2, .int x2), (3, .int x3)] [] μ
set_option maxRecDepth 20000 in
set_option maxHeartbeats 4000000 in
theorem bl_X10_ahead_0 {l : Launch} {D : gD} {d : Nat} {q : Int32 → gMem → Prop} {Γ : gC} {r0 : Nat} {x1 : Int32} {x2 : Int32} {x3 : Int32} {μ : gMem} (hr0 : r0 < 1) (h : ∀ μ_1 : gMem, μ_1 = gsI μ 10 r0 0 (0 : Int32) → (0 < d) ∧ ((((isn x1 (μ_1.1 707 r0 0)) = 0) → q (-1 : Int32) μ_1) ∧ ((¬ (isn x1 (μ_1.1 707 r0 0)) = 0) → ((x2 < 0) → q (-1 : Int32) μ_1) ∧ ((¬ x2 < 0) → (((60 : Int32) < x2) → q (-1 : Int32) μ_1) ∧ ((¬ (60 : Int32) < x2) → ((x3 < 0) → q (-1 : Int32) μ_1) ∧ ((¬ x3 < 0) → ((x3 ≤ (3 : Int32)) → ∃ (d_11 : Nat) (q_12 : gMem → Prop), d_11 < d ∧ Ctr l D d_11 yX10_runs cX10_runs 3 none [.ref (D.2.2 10 r0), .int x2] μ_1 (pV q_12) ∧ ∀ (μ_15 : gMem), q_12 μ_15 → ∀ x4_18 : Int32, x4_18 = (5 : Int32) + x1 → (x3 = (0 : Int32) → ∃ j_20 : Nat, j_20 < 115 ∧ x4_18 = nI j_20 ∧ (∃ j_21 : Nat, j_21 < 115 ∧ x1 = nI j_21 ∧ (q ((μ_15.1 746 r0 j_20) - (μ_15.1 746 r0 j_21)) μ_15))) ∧ (x3 = (1 : Int32) → ∃ j_22 : Nat, j_22 < 115 ∧ x4_18 = nI j_22 ∧ (∃ j_23 : Nat, j_23 < 115 ∧ x1 = nI j_23 ∧ (q ((μ_15.1 745 r0 j_22) - (μ_15.1 745 r0 j_23)) μ_15))) ∧ (x3 = (2 : Int32) → ∃ j_24 : Nat, j_24 < 115 ∧ x4_18 = nI j_24 ∧ (q (μ_15.1 742 r0 j_24) μ_15)) ∧ ((¬ x3 = (0 : Int32) ∧ ¬ x3 = (1 : Int32) ∧ ¬ x3 = (2 : Int32)) → ∃ j_25 : Nat, j_25 < 115 ∧ x4_18 = nI j_25 ∧ (q (μ_15.1 741 r0 j_25) μ_15))) ∧ ((¬ x3 ≤ (3 : Int32)) → q (-1 : Int32) μ_1))))))) : pt_X10_ahead_0 l D d q Γ r0 x1 x2 x3 μ := by
  unfold pt_X10_ahead_0
  refine g_aload_n dX10_ahead_0 rfl ?_
  refine g_iconst (0 : Int32) dX10_ahead_1 rfl ?_
  refine g_pfI fi_10_145 hr0 rfl rfl dX10_ahead_2 ?_
  obtain ⟨μ_1, eμ_1⟩ : ∃ z : gMem, z = gsI μ 10 r0 0 (0 : Int32) := ⟨_, rfl⟩
  have h := h μ_1 eμ_1
  refine g_mem eμ_1.symm ?_
  refine g_aload_n dX10_ahead_5 rfl ?_
  refine g_iload_n dX10_ahead_6 rfl ?_
  obtain ⟨hd_2, h⟩ := h
  refine g_cV ca_X10_394 ob_10 (c_X10_isMan (d := 0) (Nat.le_refl _) hr0 ) hd_2 (by decide) hr0 rfl rfl (by first | exact Nat.le_of_ble_eq_true rfl | decide) dX10_ahead_7 (kI (fun v_3 μ_4 hq_5 => ?_))
  obtain ⟨ev_3, eμ_4⟩ := hq_5
  subst ev_3
  refine g_mem eμ_4 ?_
  refine g_if_eq (tgt := 32) dX10_ahead_10 (by decide) (fun c_6 => ?_) (fun c_6 => ?_)
  · have h := h.1 c_6
    refine g_iconst (-1 : Int32) dX10_ahead_32 rfl ?_
    exact g_iret dX10_ahead_33 rfl rfl ⟨_, rfl, h⟩
  · have h := h.2 c_6
    refine g_iload_n dX10_ahead_13 rfl ?_
    refine g_if_lt (tgt := 32) dX10_ahead_14 (by decide) (fun c_7 => ?_) (fun c_7 => ?_)
    · have h := h.1 c_7
      refine g_iconst (-1 : Int32) dX10_ahead_32 rfl ?_
      exact g_iret dX10_ahead_33 rfl rfl ⟨_, rfl, h⟩
    · have h := h.2 c_7
      refine g_iload_n dX10_ahead_17 rfl ?_
      refine g_bipush (60 : Int32) dX10_ahead_18 rfl ?_
      refine g_icmp_gt (tgt := 32) dX10_ahead_20 (by decide) (fun c_8 => ?_) (fun c_8 => ?_)
      · have h := h.1 c_8
        refine g_iconst (-1 : Int32) dX10_ahead_32 rfl ?_
        exact g_iret dX10_ahead_33 rfl rfl ⟨_, rfl, h⟩
      · have h := h.2 c_8
        refine g_iload_n dX10_ahead_23 rfl ?_
        refine g_if_lt (tgt := 32) dX10_ahead_24 (by decide) (fun c_9 => ?_) (fun c_9 => ?_)
        · have h := h.1 c_9
          refine g_iconst (-1 : Int32) dX10_ahead_32 rfl ?_
          exact g_iret dX10_ahead_33 rfl rfl ⟨_, rfl, h⟩
        · have h := h.2 c_9
          refine g_iload_n dX10_ahead_27 rfl ?_
          refine g_iconst (3 : Int32) dX10_ahead_28 rfl ?_
          refine g_icmp_le (tgt := 34) dX10_ahead_29 (by decide) (fun c_10 => ?_) (fun c_10 => ?_)
          · have h := h.1 c_10
            refine g_aload_n dX10_ahead_34 rfl ?_
            refine g_iload_n dX10_ahead_35 rfl ?_
            obtain ⟨d_11, q_12, hd_13, hc_14, h⟩ := h
            refine g_cV ca_X10_407 ob_10 hc_14 hd_13 (by decide) hr0 rfl rfl (by first | exact Nat.le_of_ble_eq_true rfl | decide) dX10_ahead_36 (kV (fun μ_15 hq_17 => ?_))
            have h := h μ_15 hq_17
            refine g_iconst (5 : Int32) dX10_ahead_39 rfl ?_
            refine g_iload_n dX10_ahead_40 rfl ?_
            refine g_iadd dX10_ahead_41 ?_
            refine g_istore dX10_ahead_42 (by decide) (fun x4_18 ex4_18 => g_sub (lv' := [(0, .ref (D.2.2 10 r0)), (1, .int x1), (3, .int x3), (4, .int x4_18)]) [1, 2, 4, 0] rfl ?_)
            have h := h x4_18 ex4_18
            refine g_iload_n dX10_ahead_44 rfl ?_
            by_cases c_19_0 : x3 = (0 : Int32)
            · refine g_tableIn (off := 27) (tgt := 72) dX10_ahead_45 (by rw [c_19_0]; decide) (by rw [c_19_0]; decide) (by rw [c_19_0]; rfl) (by decide) ?_
              have h := h.1 c_19_0
              refine g_aload_n dX10_ahead_72 rfl ?_
              refine g_gfR fl_10_93 rfl hr0 dX10_ahead_73 ?_
              refine g_iload dX10_ahead_76 rfl ?_
              obtain ⟨j_20, hj_20, ej_20, h⟩ := h
              refine g_iald j_20 hr0 rfl hj_20 (by decide) ej_20 dX10_ahead_78 ?_
              refine g_aload_n dX10_ahead_79 rfl ?_
              refine g_gfR fl_10_93 rfl hr0 dX10_ahead_80 ?_
              refine g_iload_n dX10_ahead_83 rfl ?_
              obtain ⟨j_21, hj_21, ej_21, h⟩ := h
              refine g_iald j_21 hr0 rfl hj_21 (by decide) ej_21 dX10_ahead_84 ?_
              refine g_isub dX10_ahead_85 ?_
              exact g_iret dX10_ahead_86 rfl rfl ⟨_, rfl, h⟩
            by_cases c_19_1 : x3 = (1 : Int32)
            · refine g_tableIn (off := 42) (tgt := 87) dX10_ahead_45 (by rw [c_19_1]; decide) (by rw [c_19_1]; decide) (by rw [c_19_1]; rfl) (by decide) ?_
              have h := h.2.1 c_19_1
              refine g_aload_n dX10_ahead_87 rfl ?_
              refine g_gfR fl_10_90 rfl hr0 dX10_ahead_88 ?_
              refine g_iload dX10_ahead_91 rfl ?_
              obtain ⟨j_22, hj_22, ej_22, h⟩ := h
              refine g_iald j_22 hr0 rfl hj_22 (by decide) ej_22 dX10_ahead_93 ?_
              refine g_aload_n dX10_ahead_94 rfl ?_
              refine g_gfR fl_10_90 rfl hr0 dX10_ahead_95 ?_
              refine g_iload_n dX10_ahead_98 rfl ?_
              obtain ⟨j_23, hj_23, ej_23, h⟩ := h
              refine g_iald j_23 hr0 rfl hj_23 (by decide) ej_23 dX10_ahead_99 ?_
              refine g_isub dX10_ahead_100 ?_
              exact g_iret dX10_ahead_101 rfl rfl ⟨_, rfl, h⟩
            by_cases c_19_2 : x3 = (2 : Int32)
            · refine g_tableIn (off := 57) (tgt := 102) dX10_ahead_45 (by rw [c_19_2]; decide) (by rw [c_19_2]; decide) (by rw [c_19_2]; rfl) (by decide) ?_
              have h := h.2.2.1 c_19_2
              refine g_aload_n dX10_ahead_102 rfl ?_
              refine g_gfR fl_10_81 rfl hr0 dX10_ahead_103 ?_
              refine g_iload dX10_ahead_106 rfl ?_
              obtain ⟨j_24, hj_24, ej_24, h⟩ := h
              refine g_iald j_24 hr0 rfl hj_24 (by decide) ej_24 dX10_ahead_108 ?_
              exact g_iret dX10_ahead_109 rfl rfl ⟨_, rfl, h⟩
            have c_19_o : (x3).toInt < 0 ∨ 2 < (x3).toInt := by
              have := lv_neT c_19_0 (a := 0) rfl
              have := lv_neT c_19_1 (a := 1) rfl
              have := lv_neT c_19_2 (a := 2) rfl
              omega
            refine g_tableOut (tgt := 110) dX10_ahead_45 c_19_o (by decide) ?_
            have h := h.2.2.2 ⟨c_19_0, c_19_1, c_19_2⟩
            refine g_aload_n dX10_ahead_110 rfl ?_
            refine g_gfR fl_10_78 rfl hr0 dX10_ahead_111 ?_
            refine g_iload dX10_ahead_114 rfl ?_
            obtain ⟨j_25, hj_25, ej_25, h⟩ := h
            refine g_iald j_25 hr0 rfl hj_25 (by decide) ej_25 dX10_ahead_116 ?_
            exact g_iret dX10_ahead_117 rfl rfl ⟨_, rfl, h⟩
          · have h := h.2 c_10
            refine g_iconst (-1 : Int32) dX10_ahead_32 rfl ?_
            exact g_iret dX10_ahead_33 rfl rfl ⟨_, rfl, h⟩
theorem en_X10_ahead {l : Launch} {D : gD} {d : Nat} {q : Int32 → gMem → Prop} {r0 : Nat} {x1 : Int32} {x2 : Int32} {x3 : Int32} {μ : gMem} (h : ∀ Γ : gC, pt_X10_ahead_0 l D d q Γ r0 x1 x2 x3 μ) : Ctr l D d yX10_ahead cX10_ahead 5 (some .int) [.ref (D.2.2 10 r0), .int x1, .int x2, .int x3] μ (pI q) :=
  Ctr_of rfl (by decide) (Nat.le_of_ble_eq_true rfl) (fun Γ => g_sub [0, 1, 2, 3] rfl (h Γ))
def pt_X10_reaches_0 (l : Launch) (D : gD) (d : Nat) (q : Int32 → gMem → Prop) (Γ : gC) (r0 : Nat) (x1 : Int32) (x2 : Int32) (μ : gMem) : Prop := G l D RX10 cX10_reaches 4 (some .int) d (pI q) Γ 0 [(0, .ref (D.2.2 10 r0)), (1, .int x1), (2, .int x2)] [] μ
def pt_X10_reaches_1 (l : Launch) (D : gD) (d : Nat) (q : Int32 → gMem → Prop) (Γ : gC) (r0 : Nat) (x1 : Int32) (x2 : Int32) (x3 : Int32) (μ : gMem) : Prop := G l D RX10 cX10_reaches 4 (some .int) d (pI q) Γ 34 [(0, .ref (D.2.2 10 r0)), (1, .int x1), (2, .int x2), (3, .int x3)] [] μ
set_option maxRecDepth 20000 in
set_option maxHeartbeats 4000000 in
theorem bl_X10_reaches_0 {l : Launch} {D : gD} {d : Nat} {q : Int32 → gMem → Prop} {Γ : gC} {r0 : Nat} {x1 : Int32} {x2 : Int32} {μ : gMem} (hr0 : r0 < 1) (h : ∀ μ_1 : gMem, μ_1 = gsI μ 10 r0 0 (0 : Int32) → (0 < d) ∧ ((((isn x1 (μ_1.1 707 r0 0)) = 0) → q (-1 : Int32) μ_1) ∧ ((¬ (isn x1 (μ_1.1 707 r0 0)) = 0) → ((x2 < (1 : Int32)) → q (-1 : Int32) μ_1) ∧ ((¬ x2 < (1 : Int32)) → ((x2 ≤ (99 : Int32)) → ∃ (d_9 : Nat) (q_10 : gMem → Prop), d_9 < d ∧ Ctr l D d_9 yX10_copies cX10_copies 6 none [.ref (D.2.2 10 r0), .int (1 : Int32), .int (0 : Int32)] μ_1 (pV q_10) ∧ ∀ (μ_13 : gMem), q_10 μ_13 → ∀ x3_16 : Int32, x3_16 = (1 : Int32) → pt_X10_reaches_1 l D d q Γ r0 x1 x2 x3_16 μ_13) ∧ ((¬ x2 ≤ (99 : Int32)) → q (-1 : Int32) μ_1))))) : pt_X10_reaches_0 l D d q Γ r0 x1 x2 μ := by
  unfold pt_X10_reaches_0
  refine g_aload_n dX10_reaches_0 rfl ?_
  refine g_iconst (0 : Int32) dX10_reaches_1 rfl ?_
  refine g_pfI fi_10_145 hr0 rfl rfl dX10_reaches_2 ?_
  obtain ⟨μ_1, eμ_1⟩ : ∃ z : gMem, z = gsI μ 10 r0 0 (0 : Int32) := ⟨_, rfl⟩
  have h := h μ_1 eμ_1
  refine g_mem eμ_1.symm ?_
  refine g_aload_n dX10_reaches_5 rfl ?_
  refine g_iload_n dX10_reaches_6 rfl ?_
  obtain ⟨hd_2, h⟩ := h
  refine g_cV ca_X10_394 ob_10 (c_X10_isMan (d := 0) (Nat.le_refl _) hr0 ) hd_2 (by decide) hr0 rfl rfl (by first | exact Nat.le_of_ble_eq_true rfl | decide) dX10_reaches_7 (kI (fun v_3 μ_4 hq_5 => ?_))
  obtain ⟨ev_3, eμ_4⟩ := hq_5
  subst ev_3
  refine g_mem eμ_4 ?_
  refine g_if_eq (tgt := 24) dX10_reaches_10 (by decide) (fun c_6 => ?_) (fun c_6 => ?_)
  · have h := h.1 c_6
    refine g_iconst (-1 : Int32) dX10_reaches_24 rfl ?_
    exact g_iret dX10_reaches_25 rfl rfl ⟨_, rfl, h⟩
  · have h := h.2 c_6
    refine g_iload_n dX10_reaches_13 rfl ?_
    refine g_iconst (1 : Int32) dX10_reaches_14 rfl ?_
    refine g_icmp_lt (tgt := 24) dX10_reaches_15 (by decide) (fun c_7 => ?_) (fun c_7 => ?_)
    · have h := h.1 c_7
      refine g_iconst (-1 : Int32) dX10_reaches_24 rfl ?_
      exact g_iret dX10_reaches_25 rfl rfl ⟨_, rfl, h⟩
    · have h := h.2 c_7
      refine g_iload_n dX10_reaches_18 rfl ?_
      refine g_bipush (99 : Int32) dX10_reaches_19 rfl ?_
      refine g_icmp_le (tgt := 26) dX10_reaches_21 (by decide) (fun c_8 => ?_) (fun c_8 => ?_)
      · have h := h.1 c_8
        refine g_aload_n dX10_reaches_26 rfl ?_
        refine g_iconst (1 : Int32) dX10_reaches_27 rfl ?_
        refine g_iconst (0 : Int32) dX10_reaches_28 rfl ?_
        obtain ⟨d_9, q_10, hd_11, hc_12, h⟩ := h
        refine g_cV ca_X10_387 ob_10 hc_12 hd_11 (by decide) hr0 rfl rfl (by first | exact Nat.le_of_ble_eq_true rfl | decide) dX10_reaches_29 (kV (fun μ_13 hq_15 => ?_))
        have h := h μ_13 hq_15
        refine g_iconst (1 : Int32) dX10_reaches_32 rfl ?_
        refine g_istore_n dX10_reaches_33 (by decide) (fun x3_16 ex3_16 => g_sub (lv' := [(0, .ref (D.2.2 10 r0)), (1, .int x1), (2, .int x2), (3, .int x3_16)]) [1, 2, 3, 0] rfl ?_)
        have h := h x3_16 ex3_16
        exact g_sub [0, 1, 2, 3] rfl h
      · have h := h.2 c_8
        refine g_iconst (-1 : Int32) dX10_reaches_24 rfl ?_
        exact g_iret dX10_reaches_25 rfl rfl ⟨_, rfl, h⟩
set_option maxRecDepth 20000 in
set_option maxHeartbeats 4000000 in
theorem bl_X10_reaches_1 {l : Launch} {D : gD} {d : Nat} {q : Int32 → gMem → Prop} {Γ : gC} {r0 : Nat} {x1 : Int32} {x2 : Int32} {x3 : Int32} {μ : gMem} (hr0 : r0 < 1) (h : ((x2 < x3) → q (-2 : Int32) μ) ∧ ((¬ x2 < x3) → ∃ (d_2 : Nat) (q_3 : gMem → Prop), d_2 < d ∧ Ctr l D d_2 yX10_passes cX10_passes 6 none [.ref (D.2.2 10 r0), .int (1 : Int32), .int (0 : Int32)] μ (pV q_3) ∧ ∀ (μ_6 : gMem), q_3 μ_6 → ∃ j_9 : Nat, j_9 < 115 ∧ (5 : Int32) + x1 = nI j_9 ∧ ((((μ_6.1 742 r0 j_9) ≤ 0) → ∀ x3_11 : Int32, x3_11 = x3 + (1 : Int32) → pt_X10_reaches_1 l D d q Γ r0 x1 x2 x3_11 μ_6) ∧ ((¬ (μ_6.1 742 r0 j_9) ≤ 0) → q x3 μ_6)))) : pt_X10_reaches_1 l D d q Γ r0 x1 x2 x3 μ := by
  unfold pt_X10_reaches_1
  refine g_iload_n dX10_reaches_34 rfl ?_
  refine g_iload_n dX10_reaches_35 rfl ?_
  refine g_icmp_gt (tgt := 64) dX10_reaches_36 (by decide) (fun c_1 => ?_) (fun c_1 => ?_)
  · have h := h.1 c_1
    refine g_bipush (-2 : Int32) dX10_reaches_64 rfl ?_
    exact g_iret dX10_reaches_66 rfl rfl ⟨_, rfl, h⟩
  · have h := h.2 c_1
    refine g_aload_n dX10_reaches_39 rfl ?_
    refine g_iconst (1 : Int32) dX10_reaches_40 rfl ?_
    refine g_iconst (0 : Int32) dX10_reaches_41 rfl ?_
    obtain ⟨d_2, q_3, hd_4, hc_5, h⟩ := h
    refine g_cV ca_X10_390 ob_10 hc_5 hd_4 (by decide) hr0 rfl rfl (by first | exact Nat.le_of_ble_eq_true rfl | decide) dX10_reaches_42 (kV (fun μ_6 hq_8 => ?_))
    have h := h μ_6 hq_8
    refine g_aload_n dX10_reaches_45 rfl ?_
    refine g_gfR fl_10_81 rfl hr0 dX10_reaches_46 ?_
    refine g_iconst (5 : Int32) dX10_reaches_49 rfl ?_
    refine g_iload_n dX10_reaches_50 rfl ?_
    refine g_iadd dX10_reaches_51 ?_
    obtain ⟨j_9, hj_9, ej_9, h⟩ := h
    refine g_iald j_9 hr0 rfl hj_9 (by decide) ej_9 dX10_reaches_52 ?_
    refine g_if_le (tgt := 58) dX10_reaches_53 (by decide) (fun c_10 => ?_) (fun c_10 => ?_)
    · have h := h.1 c_10
      refine g_iinc dX10_reaches_58 rfl (by decide) (fun x3_11 ex3_11 => g_sub (lv' := [(0, .ref (D.2.2 10 r0)), (1, .int x1), (2, .int x2), (3, .int x3_11)]) [1, 2, 3, 0] rfl ?_)
      have h := h x3_11 ex3_11
      refine g_goto (tgt := 34) dX10_reaches_61 (by decide) ?_
      exact g_sub [0, 1, 2, 3] rfl h
    · have h := h.2 c_10
      refine g_iload_n dX10_reaches_56 rfl ?_
      exact g_iret dX10_reaches_57 rfl rfl ⟨_, rfl, h⟩
theorem en_X10_reaches {l : Launch} {D : gD} {d : Nat} {q : Int32 → gMem → Prop} {r0 : Nat} {x1 : Int32} {x2 : Int32} {μ : gMem} (h : ∀ Γ : gC, pt_X10_reaches_0 l D d q Γ r0 x1 x2 μ) : Ctr l D d yX10_reaches cX10_reaches 4 (some .int) [.ref (D.2.2 10 r0), .int x1, .int x2] μ (pI q) :=
  Ctr_of rfl (by decide) (Nat.le_of_ble_eq_true rfl) (fun Γ => g_sub [0, 1, 2] rfl (h Γ))
def pt_X10_longest_0 (l : Launch) (D : gD) (d : Nat) (q : Int32 → gMem → Prop) (Γ : gC) (r0 : Nat) (x1 : Int32) (x2 : Int32) (μ : gMem) : Prop := G l D RX10 cX10_longest 5 (some .int) d (pI q) Γ 0 [(0, .ref (D.2.2 10 r0)), (1, .int x1), (2, .int x2)] [] μ
def pt_X10_longest_1 (l : Launch) (D : gD) (d : Nat) (q : Int32 → gMem → Prop) (Γ : gC) (r0 : Nat) (x1 : Int32) (x2 : Int32) (x3 : Int32) (x4 : Int32) (μ : gMem) : Prop := G l D RX10 cX10_longest 5 (some .int) d (pI q) Γ 41 [(0, .ref (D.2.2 10 r0)), (1, .int x1), (2, .int x2), (3, .int x3), (4, .int x4)] [] μ
set_option maxRecDepth 20000 in
set_option maxHeartbeats 4000000 in
theorem bl_X10_longest_0 {l : Launch} {D : gD} {d : Nat} {q : Int32 → gMem → Prop} {Γ : gC} {r0 : Nat} {x1 : Int32} {x2 : Int32} {μ : gMem} (hr0 : r0 < 1) (h : ∀ μ_1 : gMem, μ_1 = gsI μ 10 r0 0 (0 : Int32) → (0 < d) ∧ ((((isn x1 (μ_1.1 707 r0 0)) = 0) → q (-1 : Int32) μ_1) ∧ ((¬ (isn x1 (μ_1.1 707 r0 0)) = 0) → ((x2 < 0) → q (-1 : Int32) μ_1) ∧ ((¬ x2 < 0) → ((x2 ≤ (99 : Int32)) → ∃ j_9 : Nat, j_9 < 115 ∧ x1 = nI j_9 ∧ (∀ x3_10 : Int32, x3_10 = μ_1.1 742 r0 j_9 → ∃ (d_11 : Nat) (q_12 : gMem → Prop), d_11 < d ∧ Ctr l D d_11 yX10_copies cX10_copies 6 none [.ref (D.2.2 10 r0), .int (1 : Int32), .int (0 : Int32)] μ_1 (pV q_12) ∧ ∀ (μ_15 : gMem), q_12 μ_15 → ∀ x4_18 : Int32, x4_18 = (0 : Int32) → pt_X10_longest_1 l D d q Γ r0 x1 x2 x3_10 x4_18 μ_15)) ∧ ((¬ x2 ≤ (99 : Int32)) → q (-1 : Int32) μ_1))))) : pt_X10_longest_0 l D d q Γ r0 x1 x2 μ := by
  unfold pt_X10_longest_0
  refine g_aload_n dX10_longest_0 rfl ?_
  refine g_iconst (0 : Int32) dX10_longest_1 rfl ?_
  refine g_pfI fi_10_145 hr0 rfl rfl dX10_longest_2 ?_
  obtain ⟨μ_1, eμ_1⟩ : ∃ z : gMem, z = gsI μ 10 r0 0 (0 : Int32) := ⟨_, rfl⟩
  have h := h μ_1 eμ_1
  refine g_mem eμ_1.symm ?_
  refine g_aload_n dX10_longest_5 rfl ?_
  refine g_iload_n dX10_longest_6 rfl ?_
  obtain ⟨hd_2, h⟩ := h
  refine g_cV ca_X10_394 ob_10 (c_X10_isMan (d := 0) (Nat.le_refl _) hr0 ) hd_2 (by decide) hr0 rfl rfl (by first | exact Nat.le_of_ble_eq_true rfl | decide) dX10_longest_7 (kI (fun v_3 μ_4 hq_5 => ?_))
  obtain ⟨ev_3, eμ_4⟩ := hq_5
  subst ev_3
  refine g_mem eμ_4 ?_
  refine g_if_eq (tgt := 23) dX10_longest_10 (by decide) (fun c_6 => ?_) (fun c_6 => ?_)
  · have h := h.1 c_6
    refine g_iconst (-1 : Int32) dX10_longest_23 rfl ?_
    exact g_iret dX10_longest_24 rfl rfl ⟨_, rfl, h⟩
  · have h := h.2 c_6
    refine g_iload_n dX10_longest_13 rfl ?_
    refine g_if_lt (tgt := 23) dX10_longest_14 (by decide) (fun c_7 => ?_) (fun c_7 => ?_)
    · have h := h.1 c_7
      refine g_iconst (-1 : Int32) dX10_longest_23 rfl ?_
      exact g_iret dX10_longest_24 rfl rfl ⟨_, rfl, h⟩
    · have h := h.2 c_7
      refine g_iload_n dX10_longest_17 rfl ?_
      refine g_bipush (99 : Int32) dX10_longest_18 rfl ?_
      refine g_icmp_le (tgt := 25) dX10_longest_20 (by decide) (fun c_8 => ?_) (fun c_8 => ?_)
      · have h := h.1 c_8
        refine g_aload_n dX10_longest_25 rfl ?_
        refine g_gfR fl_10_81 rfl hr0 dX10_longest_26 ?_
        refine g_iload_n dX10_longest_29 rfl ?_
        obtain ⟨j_9, hj_9, ej_9, h⟩ := h
        refine g_iald j_9 hr0 rfl hj_9 (by decide) ej_9 dX10_longest_30 ?_
        refine g_istore_n dX10_longest_31 (by decide) (fun x3_10 ex3_10 => g_sub (lv' := [(0, .ref (D.2.2 10 r0)), (1, .int x1), (2, .int x2), (3, .int x3_10)]) [1, 2, 3, 0] rfl ?_)
        have h := h x3_10 ex3_10
        refine g_aload_n dX10_longest_32 rfl ?_
        refine g_iconst (1 : Int32) dX10_longest_33 rfl ?_
        refine g_iconst (0 : Int32) dX10_longest_34 rfl ?_
        obtain ⟨d_11, q_12, hd_13, hc_14, h⟩ := h
        refine g_cV ca_X10_387 ob_10 hc_14 hd_13 (by decide) hr0 rfl rfl (by first | exact Nat.le_of_ble_eq_true rfl | decide) dX10_longest_35 (kV (fun μ_15 hq_17 => ?_))
        have h := h μ_15 hq_17
        refine g_iconst (0 : Int32) dX10_longest_38 rfl ?_
        refine g_istore dX10_longest_39 (by decide) (fun x4_18 ex4_18 => g_sub (lv' := [(0, .ref (D.2.2 10 r0)), (1, .int x1), (2, .int x2), (3, .int x3_10), (4, .int x4_18)]) [1, 2, 3, 4, 0] rfl ?_)
        have h := h x4_18 ex4_18
        exact g_sub [0, 1, 2, 3, 4] rfl h
      · have h := h.2 c_8
        refine g_iconst (-1 : Int32) dX10_longest_23 rfl ?_
        exact g_iret dX10_longest_24 rfl rfl ⟨_, rfl, h⟩
set_option maxRecDepth 20000 in
set_option maxHeartbeats 4000000 in
theorem bl_X10_longest_1 {l : Launch} {D : gD} {d : Nat} {q : Int32 → gMem → Prop} {Γ : gC} {r0 : Nat} {x1 : Int32} {x2 : Int32} {x3 : Int32} {x4 : Int32} {μ : gMem} (hr0 : r0 < 1) (h : ((x2 ≤ x4) → q x3 μ) ∧ ((¬ x2 ≤ x4) → ∃ (d_2 : Nat) (q_3 : gMem → Prop), d_2 < d ∧ Ctr l D d_2 yX10_passes cX10_passes 6 none [.ref (D.2.2 10 r0), .int (1 : Int32), .int (0 : Int32)] μ (pV q_3) ∧ ∀ (μ_6 : gMem), q_3 μ_6 → ∃ j_9 : Nat, j_9 < 115 ∧ (5 : Int32) + x1 = nI j_9 ∧ ((0 < d) ∧ (∀ x3_11 : Int32, x3_11 = imax x3 (μ_6.1 742 r0 j_9) → ∀ x4_12 : Int32, x4_12 = x4 + (1 : Int32) → pt_X10_longest_1 l D d q Γ r0 x1 x2 x3_11 x4_12 μ_6)))) : pt_X10_longest_1 l D d q Γ r0 x1 x2 x3 x4 μ := by
  unfold pt_X10_longest_1
  refine g_iload dX10_longest_41 rfl ?_
  refine g_iload_n dX10_longest_43 rfl ?_
  refine g_icmp_ge (tgt := 72) dX10_longest_44 (by decide) (fun c_1 => ?_) (fun c_1 => ?_)
  · have h := h.1 c_1
    refine g_iload_n dX10_longest_72 rfl ?_
    exact g_iret dX10_longest_73 rfl rfl ⟨_, rfl, h⟩
  · have h := h.2 c_1
    refine g_aload_n dX10_longest_47 rfl ?_
    refine g_iconst (1 : Int32) dX10_longest_48 rfl ?_
    refine g_iconst (0 : Int32) dX10_longest_49 rfl ?_
    obtain ⟨d_2, q_3, hd_4, hc_5, h⟩ := h
    refine g_cV ca_X10_390 ob_10 hc_5 hd_4 (by decide) hr0 rfl rfl (by first | exact Nat.le_of_ble_eq_true rfl | decide) dX10_longest_50 (kV (fun μ_6 hq_8 => ?_))
    have h := h μ_6 hq_8
    refine g_iload_n dX10_longest_53 rfl ?_
    refine g_aload_n dX10_longest_54 rfl ?_
    refine g_gfR fl_10_81 rfl hr0 dX10_longest_55 ?_
    refine g_iconst (5 : Int32) dX10_longest_58 rfl ?_
    refine g_iload_n dX10_longest_59 rfl ?_
    refine g_iadd dX10_longest_60 ?_
    obtain ⟨j_9, hj_9, ej_9, h⟩ := h
    refine g_iald j_9 hr0 rfl hj_9 (by decide) ej_9 dX10_longest_61 ?_
    obtain ⟨hd_10, h⟩ := h
    refine g_mmax hd_10 mk_X10_337 (by first | exact Nat.le_of_ble_eq_true rfl | decide) dX10_longest_62 ?_
    refine g_istore_n dX10_longest_65 (by decide) (fun x3_11 ex3_11 => g_sub (lv' := [(0, .ref (D.2.2 10 r0)), (1, .int x1), (2, .int x2), (3, .int x3_11), (4, .int x4)]) [1, 2, 3, 0, 4] rfl ?_)
    have h := h x3_11 ex3_11
    refine g_iinc dX10_longest_66 rfl (by decide) (fun x4_12 ex4_12 => g_sub (lv' := [(0, .ref (D.2.2 10 r0)), (1, .int x1), (2, .int x2), (3, .int x3_11), (4, .int x4_12)]) [1, 2, 3, 4, 0] rfl ?_)
    have h := h x4_12 ex4_12
    refine g_goto (tgt := 41) dX10_longest_69 (by decide) ?_
    exact g_sub [0, 1, 2, 3, 4] rfl h
theorem en_X10_longest {l : Launch} {D : gD} {d : Nat} {q : Int32 → gMem → Prop} {r0 : Nat} {x1 : Int32} {x2 : Int32} {μ : gMem} (h : ∀ Γ : gC, pt_X10_longest_0 l D d q Γ r0 x1 x2 μ) : Ctr l D d yX10_longest cX10_longest 5 (some .int) [.ref (D.2.2 10 r0), .int x1, .int x2] μ (pI q) :=
  Ctr_of rfl (by decide) (Nat.le_of_ble_eq_true rfl) (fun Γ => g_sub [0, 1, 2] rfl (h Γ))
def pt_X10_moves_0 (l : Launch) (D : gD) (d : Nat) (q : Int32 → gMem → Prop) (Γ : gC) (r0 : Nat) (x1 : Int32) (x2 : Int32) (x3 : Int32) (μ : gMem) : Prop := G l D RX10 cX10_moves 8 (some .int) d (pI q) Γ 0 [(0, .ref (D.2.2 10 r0)), (1, .int x1), (2, .int x2), (3, .int x3)] [] μ
def pt_X10_moves_1 (l : Launch) (D : gD) (d : Nat) (q : Int32 → gMem → Prop) (Γ : gC) (r0 : Nat) (x1 : Int32) (x2 : Int32) (x3 : Int32) (x4 : Int32) (x5 : Int32) (x6 : Int32) (μ : gMem) : Prop := G l D RX10 cX10_moves 8 (some .int) d (pI q) Γ 44 [(0, .ref (D.2.2 10 r0)), (1, .int x1), (2, .int x2), (3, .int x3), (4, .int x4), (5, .int x5), (6, .int x6)] [] μ
def pt_X10_moves_2 (l : Launch) (D : gD) (d : Nat) (q : Int32 → gMem → Prop) (Γ : gC) (r0 : Nat) (x1 : Int32) (x2 : Int32) (x3 : Int32) (x4 : Int32) (x5 : Int32) (x6 : Int32) (x7 : Int32) (μ : gMem) : Prop := G l D RX10 cX10_moves 8 (some .int) d (pI q) Γ 70 [(0, .ref (D.2.2 10 r0)), (1, .int x1), (2, .int x2), (3, .int x3), (4, .int x4), (5, .int x5), (6, .int x6), (7, .int x7)] [] μ
def pt_X10_moves_3 (l : Launch) (D : gD) (d : Nat) (q : Int32 → gMem → Prop) (Γ : gC) (r0 : Nat) (x1 : Int32) (x2 : Int32) (x3 : Int32) (x4 : Int32) (x5 : Int32) (x6 : Int32) (μ : gMem) : Prop := G l D RX10 cX10_moves 8 (some .int) d (pI q) Γ 123 [(0, .ref (D.2.2 10 r0)), (1, .int x1), (2, .int x2), (3, .int x3), (4, .int x4), (5, .int x5), (6, .int x6)] [] μ
set_option maxRecDepth 20000 in
set_option maxHeartbeats 4000000 in
theorem bl_X10_moves_0 {l : Launch} {D : gD} {d : Nat} {q : Int32 → gMem → Prop} {Γ : gC} {r0 : Nat} {x1 : Int32} {x2 : Int32} {x3 : Int32} {μ : gMem} (hr0 : r0 < 1) (h : ∀ μ_1 : gMem, μ_1 = gsI μ 10 r0 0 (0 : Int32) → (0 < d) ∧ ((((isn x1 (μ_1.1 707 r0 0)) = 0) → q (-1 : Int32) μ_1) ∧ ((¬ (isn x1 (μ_1.1 707 r0 0)) = 0) → ((x2 < (1 : Int32)) → q (-1 : Int32) μ_1) ∧ ((¬ x2 < (1 : Int32)) → (((60 : Int32) < x2) → q (-1 : Int32) μ_1) ∧ ((¬ (60 : Int32) < x2) → ((x3 < 0) → q (-1 : Int32) μ_1) ∧ ((¬ x3 < 0) → ((x3 ≤ (1 : Int32)) → ∀ x4_11 : Int32, x4_11 = (0 : Int32) → ∀ x5_12 : Int32, x5_12 = (-1 : Int32) → ∀ x6_13 : Int32, x6_13 = (0 : Int32) → pt_X10_moves_1 l D d q Γ r0 x1 x2 x3 x4_11 x5_12 x6_13 μ_1) ∧ ((¬ x3 ≤ (1 : Int32)) → q (-1 : Int32) μ_1))))))) : pt_X10_moves_0 l D d q Γ r0 x1 x2 x3 μ := by
  unfold pt_X10_moves_0
  refine g_aload_n dX10_moves_0 rfl ?_
  refine g_iconst (0 : Int32) dX10_moves_1 rfl ?_
  refine g_pfI fi_10_145 hr0 rfl rfl dX10_moves_2 ?_
  obtain ⟨μ_1, eμ_1⟩ : ∃ z : gMem, z = gsI μ 10 r0 0 (0 : Int32) := ⟨_, rfl⟩
  have h := h μ_1 eμ_1
  refine g_mem eμ_1.symm ?_
  refine g_aload_n dX10_moves_5 rfl ?_
  refine g_iload_n dX10_moves_6 rfl ?_
  obtain ⟨hd_2, h⟩ := h
  refine g_cV ca_X10_394 ob_10 (c_X10_isMan (d := 0) (Nat.le_refl _) hr0 ) hd_2 (by decide) hr0 rfl rfl (by first | exact Nat.le_of_ble_eq_true rfl | decide) dX10_moves_7 (kI (fun v_3 μ_4 hq_5 => ?_))
  obtain ⟨ev_3, eμ_4⟩ := hq_5
  subst ev_3
  refine g_mem eμ_4 ?_
  refine g_if_eq (tgt := 33) dX10_moves_10 (by decide) (fun c_6 => ?_) (fun c_6 => ?_)
  · have h := h.1 c_6
    refine g_iconst (-1 : Int32) dX10_moves_33 rfl ?_
    exact g_iret dX10_moves_34 rfl rfl ⟨_, rfl, h⟩
  · have h := h.2 c_6
    refine g_iload_n dX10_moves_13 rfl ?_
    refine g_iconst (1 : Int32) dX10_moves_14 rfl ?_
    refine g_icmp_lt (tgt := 33) dX10_moves_15 (by decide) (fun c_7 => ?_) (fun c_7 => ?_)
    · have h := h.1 c_7
      refine g_iconst (-1 : Int32) dX10_moves_33 rfl ?_
      exact g_iret dX10_moves_34 rfl rfl ⟨_, rfl, h⟩
    · have h := h.2 c_7
      refine g_iload_n dX10_moves_18 rfl ?_
      refine g_bipush (60 : Int32) dX10_moves_19 rfl ?_
      refine g_icmp_gt (tgt := 33) dX10_moves_21 (by decide) (fun c_8 => ?_) (fun c_8 => ?_)
      · have h := h.1 c_8
        refine g_iconst (-1 : Int32) dX10_moves_33 rfl ?_
        exact g_iret dX10_moves_34 rfl rfl ⟨_, rfl, h⟩
      · have h := h.2 c_8
        refine g_iload_n dX10_moves_24 rfl ?_
        refine g_if_lt (tgt := 33) dX10_moves_25 (by decide) (fun c_9 => ?_) (fun c_9 => ?_)
        · have h := h.1 c_9
          refine g_iconst (-1 : Int32) dX10_moves_33 rfl ?_
          exact g_iret dX10_moves_34 rfl rfl ⟨_, rfl, h⟩
        · have h := h.2 c_9
          refine g_iload_n dX10_moves_28 rfl ?_
          refine g_iconst (1 : Int32) dX10_moves_29 rfl ?_
          refine g_icmp_le (tgt := 35) dX10_moves_30 (by decide) (fun c_10 => ?_) (fun c_10 => ?_)
          · have h := h.1 c_10
            refine g_iconst (0 : Int32) dX10_moves_35 rfl ?_
            refine g_istore dX10_moves_36 (by decide) (fun x4_11 ex4_11 => g_sub (lv' := [(0, .ref (D.2.2 10 r0)), (1, .int x1), (2, .int x2), (3, .int x3), (4, .int x4_11)]) [1, 2, 3, 4, 0] rfl ?_)
            have h := h x4_11 ex4_11
            refine g_iconst (-1 : Int32) dX10_moves_38 rfl ?_
            refine g_istore dX10_moves_39 (by decide) (fun x5_12 ex5_12 => g_sub (lv' := [(0, .ref (D.2.2 10 r0)), (1, .int x1), (2, .int x2), (3, .int x3), (4, .int x4_11), (5, .int x5_12)]) [1, 2, 3, 4, 5, 0] rfl ?_)
            have h := h x5_12 ex5_12
            refine g_iconst (0 : Int32) dX10_moves_41 rfl ?_
            refine g_istore dX10_moves_42 (by decide) (fun x6_13 ex6_13 => g_sub (lv' := [(0, .ref (D.2.2 10 r0)), (1, .int x1), (2, .int x2), (3, .int x3), (4, .int x4_11), (5, .int x5_12), (6, .int x6_13)]) [1, 2, 3, 4, 5, 6, 0] rfl ?_)
            have h := h x6_13 ex6_13
            exact g_sub [0, 1, 2, 3, 4, 5, 6] rfl h
          · have h := h.2 c_10
            refine g_iconst (-1 : Int32) dX10_moves_33 rfl ?_
            exact g_iret dX10_moves_34 rfl rfl ⟨_, rfl, h⟩
set_option maxRecDepth 20000 in
set_option maxHeartbeats 4000000 in
theorem bl_X10_moves_1 {l : Launch} {D : gD} {d : Nat} {q : Int32 → gMem → Prop} {Γ : gC} {r0 : Nat} {x1 : Int32} {x2 : Int32} {x3 : Int32} {x4 : Int32} {x5 : Int32} {x6 : Int32} {μ : gMem} (hr0 : r0 < 1) (h : (((99 : Int32) < x6) → ((¬ x3 = 0) → q x5 μ) ∧ ((x3 = 0) → q x4 μ)) ∧ ((¬ (99 : Int32) < x6) → ∃ (d_3 : Nat) (q_4 : gMem → Prop), d_3 < d ∧ Ctr l D d_3 yX10_copies cX10_copies 6 none [.ref (D.2.2 10 r0), .int (1 : Int32), .int (0 : Int32)] μ (pV q_4) ∧ ∀ (μ_7 : gMem), q_4 μ_7 → ∃ j_10 : Nat, j_10 < 115 ∧ (5 : Int32) + x1 = nI j_10 ∧ (∀ μ_11 : gMem, μ_11 = gsI μ_7 740 r0 j_10 x6 → ∀ x7_12 : Int32, x7_12 = (0 : Int32) → pt_X10_moves_2 l D d q Γ r0 x1 x2 x3 x4 x5 x6 x7_12 μ_11))) : pt_X10_moves_1 l D d q Γ r0 x1 x2 x3 x4 x5 x6 μ := by
  unfold pt_X10_moves_1
  refine g_iload dX10_moves_44 rfl ?_
  refine g_bipush (99 : Int32) dX10_moves_46 rfl ?_
  refine g_icmp_gt (tgt := 129) dX10_moves_48 (by decide) (fun c_1 => ?_) (fun c_1 => ?_)
  · have h := h.1 c_1
    refine g_iload_n dX10_moves_129 rfl ?_
    refine g_if_ne (tgt := 138) dX10_moves_130 (by decide) (fun c_2 => ?_) (fun c_2 => ?_)
    · have h := h.1 c_2
      refine g_iload dX10_moves_138 rfl ?_
      exact g_iret dX10_moves_140 rfl rfl ⟨_, rfl, h⟩
    · have h := h.2 c_2
      refine g_iload dX10_moves_133 rfl ?_
      refine g_goto (tgt := 140) dX10_moves_135 (by decide) ?_
      exact g_iret dX10_moves_140 rfl rfl ⟨_, rfl, h⟩
  · have h := h.2 c_1
    refine g_aload_n dX10_moves_51 rfl ?_
    refine g_iconst (1 : Int32) dX10_moves_52 rfl ?_
    refine g_iconst (0 : Int32) dX10_moves_53 rfl ?_
    obtain ⟨d_3, q_4, hd_5, hc_6, h⟩ := h
    refine g_cV ca_X10_387 ob_10 hc_6 hd_5 (by decide) hr0 rfl rfl (by first | exact Nat.le_of_ble_eq_true rfl | decide) dX10_moves_54 (kV (fun μ_7 hq_9 => ?_))
    have h := h μ_7 hq_9
    refine g_aload_n dX10_moves_57 rfl ?_
    refine g_gfR fl_10_75 rfl hr0 dX10_moves_58 ?_
    refine g_iconst (5 : Int32) dX10_moves_61 rfl ?_
    refine g_iload_n dX10_moves_62 rfl ?_
    refine g_iadd dX10_moves_63 ?_
    refine g_iload dX10_moves_64 rfl ?_
    obtain ⟨j_10, hj_10, ej_10, h⟩ := h
    refine g_iast j_10 hr0 rfl hj_10 (by decide) ej_10 dX10_moves_66 ?_
    obtain ⟨μ_11, eμ_11⟩ : ∃ z : gMem, z = gsI μ_7 740 r0 j_10 x6 := ⟨_, rfl⟩
    have h := h μ_11 eμ_11
    refine g_mem eμ_11.symm ?_
    refine g_iconst (0 : Int32) dX10_moves_67 rfl ?_
    refine g_istore dX10_moves_68 (by decide) (fun x7_12 ex7_12 => g_sub (lv' := [(0, .ref (D.2.2 10 r0)), (1, .int x1), (2, .int x2), (3, .int x3), (4, .int x4), (5, .int x5), (6, .int x6), (7, .int x7_12)]) [1, 2, 3, 4, 5, 6, 7, 0] rfl ?_)
    have h := h x7_12 ex7_12
    exact g_sub [0, 1, 2, 3, 4, 5, 6, 7] rfl h
set_option maxRecDepth 20000 in
set_option maxHeartbeats 4000000 in
theorem bl_X10_moves_2 {l : Launch} {D : gD} {d : Nat} {q : Int32 → gMem → Prop} {Γ : gC} {r0 : Nat} {x1 : Int32} {x2 : Int32} {x3 : Int32} {x4 : Int32} {x5 : Int32} {x6 : Int32} {x7 : Int32} {μ : gMem} (hr0 : r0 < 1) (h : ((x2 ≤ x7) → ∃ j_2 : Nat, j_2 < 115 ∧ (5 : Int32) + x1 = nI j_2 ∧ (∃ j_3 : Nat, j_3 < 115 ∧ x1 = nI j_3 ∧ (∀ x7_4 : Int32, x7_4 = (μ.1 745 r0 j_2) - (μ.1 745 r0 j_3) → ((x5 < x7_4) → ∀ x4_6 : Int32, x4_6 = x6 → ∀ x5_7 : Int32, x5_7 = x7_4 → pt_X10_moves_3 l D d q Γ r0 x1 x2 x3 x4_6 x5_7 x6 μ) ∧ ((¬ x5 < x7_4) → pt_X10_moves_3 l D d q Γ r0 x1 x2 x3 x4 x5 x6 μ)))) ∧ ((¬ x2 ≤ x7) → ∃ (d_8 : Nat) (q_9 : gMem → Prop), d_8 < d ∧ Ctr l D d_8 yX10_passes cX10_passes 6 none [.ref (D.2.2 10 r0), .int (1 : Int32), .int (0 : Int32)] μ (pV q_9) ∧ ∀ (μ_12 : gMem), q_9 μ_12 → ∀ x7_15 : Int32, x7_15 = x7 + (1 : Int32) → pt_X10_moves_2 l D d q Γ r0 x1 x2 x3 x4 x5 x6 x7_15 μ_12)) : pt_X10_moves_2 l D d q Γ r0 x1 x2 x3 x4 x5 x6 x7 μ := by
  unfold pt_X10_moves_2
  refine g_iload dX10_moves_70 rfl ?_
  refine g_iload_n dX10_moves_72 rfl ?_
  refine g_icmp_ge (tgt := 88) dX10_moves_73 (by decide) (fun c_1 => ?_) (fun c_1 => ?_)
  · have h := h.1 c_1
    refine g_aload_n dX10_moves_88 rfl ?_
    refine g_gfR fl_10_90 rfl hr0 dX10_moves_89 ?_
    refine g_iconst (5 : Int32) dX10_moves_92 rfl ?_
    refine g_iload_n dX10_moves_93 rfl ?_
    refine g_iadd dX10_moves_94 ?_
    obtain ⟨j_2, hj_2, ej_2, h⟩ := h
    refine g_iald j_2 hr0 rfl hj_2 (by decide) ej_2 dX10_moves_95 ?_
    refine g_aload_n dX10_moves_96 rfl ?_
    refine g_gfR fl_10_90 rfl hr0 dX10_moves_97 ?_
    refine g_iload_n dX10_moves_100 rfl ?_
    obtain ⟨j_3, hj_3, ej_3, h⟩ := h
    refine g_iald j_3 hr0 rfl hj_3 (by decide) ej_3 dX10_moves_101 ?_
    refine g_isub dX10_moves_102 ?_
    refine g_istore dX10_moves_103 (by decide) (fun x7_4 ex7_4 => g_sub (lv' := [(0, .ref (D.2.2 10 r0)), (1, .int x1), (2, .int x2), (3, .int x3), (4, .int x4), (5, .int x5), (6, .int x6), (7, .int x7_4)]) [1, 2, 3, 4, 5, 6, 7, 0] rfl ?_)
    have h := h x7_4 ex7_4
    refine g_iload dX10_moves_105 rfl ?_
    refine g_iload dX10_moves_107 rfl ?_
    refine g_icmp_gt (tgt := 115) dX10_moves_109 (by decide) (fun c_5 => ?_) (fun c_5 => ?_)
    · have h := h.1 c_5
      refine g_iload dX10_moves_115 rfl ?_
      refine g_istore dX10_moves_117 (by decide) (fun x4_6 ex4_6 => g_sub (lv' := [(0, .ref (D.2.2 10 r0)), (1, .int x1), (2, .int x2), (3, .int x3), (4, .int x4_6), (6, .int x6), (7, .int x7_4)]) [1, 2, 3, 4, 0, 6, 7] rfl ?_)
      have h := h x4_6 ex4_6
      refine g_iload dX10_moves_119 rfl ?_
      refine g_istore dX10_moves_121 (by decide) (fun x5_7 ex5_7 => g_sub (lv' := [(0, .ref (D.2.2 10 r0)), (1, .int x1), (2, .int x2), (3, .int x3), (4, .int x4_6), (5, .int x5_7), (6, .int x6)]) [1, 2, 3, 4, 5, 0, 6] rfl ?_)
      have h := h x5_7 ex5_7
      exact g_sub [0, 1, 2, 3, 4, 5, 6] rfl h
    · have h := h.2 c_5
      refine g_goto (tgt := 123) dX10_moves_112 (by decide) ?_
      exact g_sub [0, 1, 2, 3, 4, 5, 6] rfl h
  · have h := h.2 c_1
    refine g_aload_n dX10_moves_76 rfl ?_
    refine g_iconst (1 : Int32) dX10_moves_77 rfl ?_
    refine g_iconst (0 : Int32) dX10_moves_78 rfl ?_
    obtain ⟨d_8, q_9, hd_10, hc_11, h⟩ := h
    refine g_cV ca_X10_390 ob_10 hc_11 hd_10 (by decide) hr0 rfl rfl (by first | exact Nat.le_of_ble_eq_true rfl | decide) dX10_moves_79 (kV (fun μ_12 hq_14 => ?_))
    have h := h μ_12 hq_14
    refine g_iinc dX10_moves_82 rfl (by decide) (fun x7_15 ex7_15 => g_sub (lv' := [(0, .ref (D.2.2 10 r0)), (1, .int x1), (2, .int x2), (3, .int x3), (4, .int x4), (5, .int x5), (6, .int x6), (7, .int x7_15)]) [1, 2, 3, 4, 5, 6, 7, 0] rfl ?_)
    have h := h x7_15 ex7_15
    refine g_goto (tgt := 70) dX10_moves_85 (by decide) ?_
    exact g_sub [0, 1, 2, 3, 4, 5, 6, 7] rfl h
set_option maxRecDepth 20000 in
set_option maxHeartbeats 4000000 in
theorem bl_X10_moves_3 {l : Launch} {D : gD} {d : Nat} {q : Int32 → gMem → Prop} {Γ : gC} {r0 : Nat} {x1 : Int32} {x2 : Int32} {x3 : Int32} {x4 : Int32} {x5 : Int32} {x6 : Int32} {μ : gMem} (hr0 : r0 < 1) (h : ∀ x6_1 : Int32, x6_1 = x6 + (1 : Int32) → pt_X10_moves_1 l D d q Γ r0 x1 x2 x3 x4 x5 x6_1 μ) : pt_X10_moves_3 l D d q Γ r0 x1 x2 x3 x4 x5 x6 μ := by
  unfold pt_X10_moves_3
  refine g_iinc dX10_moves_123 rfl (by decide) (fun x6_1 ex6_1 => g_sub (lv' := [(0, .ref (D.2.2 10 r0)), (1, .int x1), (2, .int x2), (3, .int x3), (4, .int x4), (5, .int x5), (6, .int x6_1)]) [1, 2, 3, 4, 5, 6, 0] rfl ?_)
  have h := h x6_1 ex6_1
  refine g_goto (tgt := 44) dX10_moves_126 (by decide) ?_
  exact g_sub [0, 1, 2, 3, 4, 5, 6] rfl h
theorem en_X10_moves {l : Launch} {D : gD} {d : Nat} {q : Int32 → gMem → Prop} {r0 : Nat} {x1 : Int32} {x2 : Int32} {x3 : Int32} {μ : gMem} (h : ∀ Γ : gC, pt_X10_moves_0 l D d q Γ r0 x1 x2 x3 μ) : Ctr l D d yX10_moves cX10_moves 8 (some .int) [.ref (D.2.2 10 r0), .int x1, .int x2, .int x3] μ (pI q) :=
  Ctr_of rfl (by decide) (Nat.le_of_ble_eq_true rfl) (fun Γ => g_sub [0, 1, 2, 3] rfl (h Γ))
def pt_X10_fives_0 (l : Launch) (D : gD) (d : Nat) (q : Int32 → gMem → Prop) (Γ : gC) (x0 : Int32) (μ : gMem) : Prop := G l D RX10 cX10_fives 3 (some .int) d (pI q) Γ 0 [(0, .int x0)] [] μ
def pt_X10_fives_1 (l : Launch) (D : gD) (d : Nat) (q : Int32 → gMem → Prop) (Γ : gC) (x0 : Int32) (x1 : Int32) (x2 : Int32) (μ : gMem) : Prop := G l D RX10 cX10_fives 3 (some .int) d (pI q) Γ 4 [(0, .int x0), (1, .int x1), (2, .int x2)] [] μ
set_option maxRecDepth 20000 in
set_option maxHeartbeats 4000000 in
theorem bl_X10_fives_0 {l : Launch} {D : gD} {d : Nat} {q : Int32 → gMem → Prop} {Γ : gC} {x0 : Int32} {μ : gMem}  (h : ∀ x1_1 : Int32, x1_1 = (1 : Int32) → ∀ x2_2 : Int32, x2_2 = (0 : Int32) → pt_X10_fives_1 l D d q Γ x0 x1_1 x2_2 μ) : pt_X10_fives_0 l D d q Γ x0 μ := by
  unfold pt_X10_fives_0
  refine g_iconst (1 : Int32) dX10_fives_0 rfl ?_
  refine g_istore_n dX10_fives_1 (by decide) (fun x1_1 ex1_1 => g_sub (lv' := [(0, .int x0), (1, .int x1_1)]) [1, 0] rfl ?_)
  have h := h x1_1 ex1_1
  refine g_iconst (0 : Int32) dX10_fives_2 rfl ?_
  refine g_istore_n dX10_fives_3 (by decide) (fun x2_2 ex2_2 => g_sub (lv' := [(0, .int x0), (1, .int x1_1), (2, .int x2_2)]) [1, 2, 0] rfl ?_)
  have h := h x2_2 ex2_2
  exact g_sub [0, 1, 2] rfl h
set_option maxRecDepth 20000 in
set_option maxHeartbeats 4000000 in
theorem bl_X10_fives_1 {l : Launch} {D : gD} {d : Nat} {q : Int32 → gMem → Prop} {Γ : gC} {x0 : Int32} {x1 : Int32} {x2 : Int32} {μ : gMem}  (h : ((x0 ≤ x2) → q x1 μ) ∧ ((¬ x0 ≤ x2) → ∀ x1_2 : Int32, x1_2 = x1 * (5 : Int32) → ∀ x2_3 : Int32, x2_3 = x2 + (1 : Int32) → pt_X10_fives_1 l D d q Γ x0 x1_2 x2_3 μ)) : pt_X10_fives_1 l D d q Γ x0 x1 x2 μ := by
  unfold pt_X10_fives_1
  refine g_iload_n dX10_fives_4 rfl ?_
  refine g_iload_n dX10_fives_5 rfl ?_
  refine g_icmp_ge (tgt := 19) dX10_fives_6 (by decide) (fun c_1 => ?_) (fun c_1 => ?_)
  · have h := h.1 c_1
    refine g_iload_n dX10_fives_19 rfl ?_
    exact g_iret dX10_fives_20 rfl rfl ⟨_, rfl, h⟩
  · have h := h.2 c_1
    refine g_iload_n dX10_fives_9 rfl ?_
    refine g_iconst (5 : Int32) dX10_fives_10 rfl ?_
    refine g_imul dX10_fives_11 ?_
    refine g_istore_n dX10_fives_12 (by decide) (fun x1_2 ex1_2 => g_sub (lv' := [(0, .int x0), (1, .int x1_2), (2, .int x2)]) [1, 0, 2] rfl ?_)
    have h := h x1_2 ex1_2
    refine g_iinc dX10_fives_13 rfl (by decide) (fun x2_3 ex2_3 => g_sub (lv' := [(0, .int x0), (1, .int x1_2), (2, .int x2_3)]) [1, 2, 0] rfl ?_)
    have h := h x2_3 ex2_3
    refine g_goto (tgt := 4) dX10_fives_16 (by decide) ?_
    exact g_sub [0, 1, 2] rfl h
theorem en_X10_fives {l : Launch} {D : gD} {d : Nat} {q : Int32 → gMem → Prop} {x0 : Int32} {μ : gMem} (h : ∀ Γ : gC, pt_X10_fives_0 l D d q Γ x0 μ) : Ctr l D d yX10_fives cX10_fives 3 (some .int) [.int x0] μ (pI q) :=
  Ctr_of rfl (by decide) (Nat.le_of_ble_eq_true rfl) (fun Γ => g_sub [0] rfl (h Γ))
def pt_X10_deeds_0 (l : Launch) (D : gD) (d : Nat) (q : Int32 → gMem → Prop) (Γ : gC) (r0 : Nat) (x1 : Int32) (x2 : Int32) (μ : gMem) : Prop := G l D RX10 cX10_deeds 11 (some .int) d (pI q) Γ 0 [(0, .ref (D.2.2 10 r0)), (1, .int x1), (2, .int x2)] [] μ
def pt_X10_deeds_1 (l : Launch) (D : gD) (d : Nat) (q : Int32 → gMem → Prop) (Γ : gC) (r0 : Nat) (x1 : Int32) (x2 : Int32) (x3 : Int32) (μ : gMem) : Prop := G l D RX10 cX10_deeds 11 (some .int) d (pI q) Γ 48 [(0, .ref (D.2.2 10 r0)), (1, .int x1), (2, .int x2), (3, .int x3)] [] μ
def pt_X10_deeds_2 (l : Launch) (D : gD) (d : Nat) (q : Int32 → gMem → Prop) (Γ : gC) (r0 : Nat) (x1 : Int32) (x2 : Int32) (x3 : Int32) (x4 : Int32) (x5 : Int32) (x6 : Int32) (μ : gMem) : Prop := G l D RX10 cX10_deeds 11 (some .int) d (pI q) Γ 57 [(0, .ref (D.2.2 10 r0)), (1, .int x1), (2, .int x2), (3, .int x3), (4, .int x4), (5, .int x5), (6, .int x6)] [] μ
def pt_X10_deeds_3 (l : Launch) (D : gD) (d : Nat) (q : Int32 → gMem → Prop) (Γ : gC) (r0 : Nat) (x1 : Int32) (x2 : Int32) (x3 : Int32) (x4 : Int32) (x5 : Int32) (x6 : Int32) (x7 : Int32) (x8 : Int32) (x9 : Int32) (μ : gMem) : Prop := G l D RX10 cX10_deeds 11 (some .int) d (pI q) Γ 91 [(0, .ref (D.2.2 10 r0)), (1, .int x1), (2, .int x2), (3, .int x3), (4, .int x4), (5, .int x5), (6, .int x6), (7, .int x7), (8, .int x8), (9, .int x9)] [] μ
def pt_X10_deeds_4 (l : Launch) (D : gD) (d : Nat) (q : Int32 → gMem → Prop) (Γ : gC) (r0 : Nat) (x1 : Int32) (x2 : Int32) (x3 : Int32) (x6 : Int32) (x8 : Int32) (μ : gMem) : Prop := G l D RX10 cX10_deeds 11 (some .int) d (pI q) Γ 176 [(0, .ref (D.2.2 10 r0)), (1, .int x1), (2, .int x2), (3, .int x3), (6, .int x6), (8, .int x8)] [] μ
def pt_X10_deeds_5 (l : Launch) (D : gD) (d : Nat) (q : Int32 → gMem → Prop) (Γ : gC) (r0 : Nat) (x1 : Int32) (x2 : Int32) (x3 : Int32) (x4 : Int32) (x5 : Int32) (x6 : Int32) (μ : gMem) : Prop := G l D RX10 cX10_deeds 11 (some .int) d (pI q) Γ 184 [(0, .ref (D.2.2 10 r0)), (1, .int x1), (2, .int x2), (3, .int x3), (4, .int x4), (5, .int x5), (6, .int x6)] [] μ
set_option maxRecDepth 20000 in
set_option maxHeartbeats 4000000 in
theorem bl_X10_deeds_0 {l : Launch} {D : gD} {d : Nat} {q : Int32 → gMem → Prop} {Γ : gC} {r0 : Nat} {x1 : Int32} {x2 : Int32} {μ : gMem} (hr0 : r0 < 1) (h : ∀ μ_1 : gMem, μ_1 = gsI μ 10 r0 0 (0 : Int32) → (0 < d) ∧ ((((isn x1 (μ_1.1 707 r0 0)) = 0) → q (-1 : Int32) μ_1) ∧ ((¬ (isn x1 (μ_1.1 707 r0 0)) = 0) → ((x2 < 0) → q (-1 : Int32) μ_1) ∧ ((¬ x2 < 0) → ((x2 ≤ (4 : Int32)) → (0 < d) ∧ (∀ x3_11 : Int32, x3_11 = imin (4 : Int32) (μ_1.1 707 r0 1) → (((4 : Int32) ≤ x2) → pt_X10_deeds_1 l D d q Γ r0 x1 x2 x3_11 μ_1) ∧ ((¬ (4 : Int32) ≤ x2) → ((x2 < x3_11) → pt_X10_deeds_1 l D d q Γ r0 x1 x2 x3_11 μ_1) ∧ ((¬ x2 < x3_11) → q (-2 : Int32) μ_1)))) ∧ ((¬ x2 ≤ (4 : Int32)) → q (-1 : Int32) μ_1))))) : pt_X10_deeds_0 l D d q Γ r0 x1 x2 μ := by
  unfold pt_X10_deeds_0
  refine g_aload_n dX10_deeds_0 rfl ?_
  refine g_iconst (0 : Int32) dX10_deeds_1 rfl ?_
  refine g_pfI fi_10_145 hr0 rfl rfl dX10_deeds_2 ?_
  obtain ⟨μ_1, eμ_1⟩ : ∃ z : gMem, z = gsI μ 10 r0 0 (0 : Int32) := ⟨_, rfl⟩
  have h := h μ_1 eμ_1
  refine g_mem eμ_1.symm ?_
  refine g_aload_n dX10_deeds_5 rfl ?_
  refine g_iload_n dX10_deeds_6 rfl ?_
  obtain ⟨hd_2, h⟩ := h
  refine g_cV ca_X10_394 ob_10 (c_X10_isMan (d := 0) (Nat.le_refl _) hr0 ) hd_2 (by decide) hr0 rfl rfl (by first | exact Nat.le_of_ble_eq_true rfl | decide) dX10_deeds_7 (kI (fun v_3 μ_4 hq_5 => ?_))
  obtain ⟨ev_3, eμ_4⟩ := hq_5
  subst ev_3
  refine g_mem eμ_4 ?_
  refine g_if_eq (tgt := 22) dX10_deeds_10 (by decide) (fun c_6 => ?_) (fun c_6 => ?_)
  · have h := h.1 c_6
    refine g_iconst (-1 : Int32) dX10_deeds_22 rfl ?_
    exact g_iret dX10_deeds_23 rfl rfl ⟨_, rfl, h⟩
  · have h := h.2 c_6
    refine g_iload_n dX10_deeds_13 rfl ?_
    refine g_if_lt (tgt := 22) dX10_deeds_14 (by decide) (fun c_7 => ?_) (fun c_7 => ?_)
    · have h := h.1 c_7
      refine g_iconst (-1 : Int32) dX10_deeds_22 rfl ?_
      exact g_iret dX10_deeds_23 rfl rfl ⟨_, rfl, h⟩
    · have h := h.2 c_7
      refine g_iload_n dX10_deeds_17 rfl ?_
      refine g_iconst (4 : Int32) dX10_deeds_18 rfl ?_
      refine g_icmp_le (tgt := 24) dX10_deeds_19 (by decide) (fun c_8 => ?_) (fun c_8 => ?_)
      · have h := h.1 c_8
        refine g_iconst (4 : Int32) dX10_deeds_24 rfl ?_
        refine g_aload_n dX10_deeds_25 rfl ?_
        refine g_gfR fl_10_13 rfl hr0 dX10_deeds_26 ?_
        refine g_iconst (1 : Int32) dX10_deeds_29 rfl ?_
        refine g_iald 1 hr0 rfl (by decide) (by decide) rfl dX10_deeds_30 ?_
        obtain ⟨hd_10, h⟩ := h
        refine g_mmin hd_10 mk_X10_371 (by first | exact Nat.le_of_ble_eq_true rfl | decide) dX10_deeds_31 ?_
        refine g_istore_n dX10_deeds_34 (by decide) (fun x3_11 ex3_11 => g_sub (lv' := [(0, .ref (D.2.2 10 r0)), (1, .int x1), (2, .int x2), (3, .int x3_11)]) [1, 2, 3, 0] rfl ?_)
        have h := h x3_11 ex3_11
        refine g_iload_n dX10_deeds_35 rfl ?_
        refine g_iconst (4 : Int32) dX10_deeds_36 rfl ?_
        refine g_icmp_ge (tgt := 48) dX10_deeds_37 (by decide) (fun c_12 => ?_) (fun c_12 => ?_)
        · have h := h.1 c_12
          exact g_sub [0, 1, 2, 3] rfl h
        · have h := h.2 c_12
          refine g_iload_n dX10_deeds_40 rfl ?_
          refine g_iload_n dX10_deeds_41 rfl ?_
          refine g_icmp_lt (tgt := 48) dX10_deeds_42 (by decide) (fun c_13 => ?_) (fun c_13 => ?_)
          · have h := h.1 c_13
            exact g_sub [0, 1, 2, 3] rfl h
          · have h := h.2 c_13
            refine g_bipush (-2 : Int32) dX10_deeds_45 rfl ?_
            exact g_iret dX10_deeds_47 rfl rfl ⟨_, rfl, h⟩
      · have h := h.2 c_8
        refine g_iconst (-1 : Int32) dX10_deeds_22 rfl ?_
        exact g_iret dX10_deeds_23 rfl rfl ⟨_, rfl, h⟩
set_option maxRecDepth 20000 in
set_option maxHeartbeats 4000000 in
theorem bl_X10_deeds_1 {l : Launch} {D : gD} {d : Nat} {q : Int32 → gMem → Prop} {Γ : gC} {r0 : Nat} {x1 : Int32} {x2 : Int32} {x3 : Int32} {μ : gMem} (hr0 : r0 < 1) (h : ∀ x4_1 : Int32, x4_1 = (-1 : Int32) → ∀ x5_2 : Int32, x5_2 = (0 : Int32) → ∀ x6_3 : Int32, x6_3 = (0 : Int32) → pt_X10_deeds_2 l D d q Γ r0 x1 x2 x3 x4_1 x5_2 x6_3 μ) : pt_X10_deeds_1 l D d q Γ r0 x1 x2 x3 μ := by
  unfold pt_X10_deeds_1
  refine g_iconst (-1 : Int32) dX10_deeds_48 rfl ?_
  refine g_istore dX10_deeds_49 (by decide) (fun x4_1 ex4_1 => g_sub (lv' := [(0, .ref (D.2.2 10 r0)), (1, .int x1), (2, .int x2), (3, .int x3), (4, .int x4_1)]) [1, 2, 3, 4, 0] rfl ?_)
  have h := h x4_1 ex4_1
  refine g_iconst (0 : Int32) dX10_deeds_51 rfl ?_
  refine g_istore dX10_deeds_52 (by decide) (fun x5_2 ex5_2 => g_sub (lv' := [(0, .ref (D.2.2 10 r0)), (1, .int x1), (2, .int x2), (3, .int x3), (4, .int x4_1), (5, .int x5_2)]) [1, 2, 3, 4, 5, 0] rfl ?_)
  have h := h x5_2 ex5_2
  refine g_iconst (0 : Int32) dX10_deeds_54 rfl ?_
  refine g_istore dX10_deeds_55 (by decide) (fun x6_3 ex6_3 => g_sub (lv' := [(0, .ref (D.2.2 10 r0)), (1, .int x1), (2, .int x2), (3, .int x3), (4, .int x4_1), (5, .int x5_2), (6, .int x6_3)]) [1, 2, 3, 4, 5, 6, 0] rfl ?_)
  have h := h x6_3 ex6_3
  exact g_sub [0, 1, 2, 3, 4, 5, 6] rfl h
set_option maxRecDepth 20000 in
set_option maxHeartbeats 4000000 in
theorem bl_X10_deeds_2 {l : Launch} {D : gD} {d : Nat} {q : Int32 → gMem → Prop} {Γ : gC} {r0 : Nat} {x1 : Int32} {x2 : Int32} {x3 : Int32} {x4 : Int32} {x5 : Int32} {x6 : Int32} {μ : gMem} (hr0 : r0 < 1) (h : ∃ (d_1 : Nat) (q_2 : Int32 → gMem → Prop), d_1 < d ∧ Ctr l D d_1 yX10_fives cX10_fives 3 (some .int) [.int x3] μ (pI q_2) ∧ ∀ (v_6 : Int32) (μ_5 : gMem), q_2 v_6 μ_5 → ((v_6 ≤ x6) → ((¬ x4 = (-1 : Int32)) → ((¬ x2 = (4 : Int32)) → ∃ (d_11 : Nat) (q_12 : Int32 → gMem → Prop), d_11 < d ∧ Ctr l D d_11 yX10_fives cX10_fives 3 (some .int) [.int ((x3 - (1 : Int32)) - x2)] μ_5 (pI q_12) ∧ ∀ (v_16 : Int32) (μ_15 : gMem), q_12 v_16 μ_15 → (¬ v_16 = 0) ∧ (q ((x4 / v_16) - (x4 / v_16) / (5 : Int32) * (5 : Int32)) μ_15)) ∧ ((x2 = (4 : Int32)) → q x5 μ_5)) ∧ ((x4 = (-1 : Int32)) → q (-3 : Int32) μ_5)) ∧ ((¬ v_6 ≤ x6) → ∃ j_19 : Nat, j_19 < 115 ∧ x1 = nI j_19 ∧ (∃ (d_20 : Nat) (q_21 : Int32 → gMem → Prop), d_20 < d ∧ Ctr l D d_20 yX10_deedSteps cX10_deedSteps 6 (some .int) [.ref (D.2.2 10 r0), .int (0 : Int32), .int x1, .ref (D.2.2 714 r0)] μ_5 (pI q_21) ∧ ∀ (v_25 : Int32) (μ_24 : gMem), q_21 v_25 μ_24 → ∀ x7_27 : Int32, x7_27 = (μ_5.1 741 r0 j_19) + v_25 → ∀ x8_28 : Int32, x8_28 = (0 : Int32) → ∀ x9_29 : Int32, x9_29 = (0 : Int32) → pt_X10_deeds_3 l D d q Γ r0 x1 x2 x3 x4 x5 x6 x7_27 x8_28 x9_29 μ_24))) : pt_X10_deeds_2 l D d q Γ r0 x1 x2 x3 x4 x5 x6 μ := by
  unfold pt_X10_deeds_2
  refine g_iload dX10_deeds_57 rfl ?_
  refine g_iload_n dX10_deeds_59 rfl ?_
  obtain ⟨d_1, q_2, hd_3, hc_4, h⟩ := h
  refine g_callS ca_X10_410 hc_4 hd_3 (by decide) rfl rfl (by first | exact Nat.le_of_ble_eq_true rfl | decide) dX10_deeds_60 (kI (fun v_6 μ_5 hq_7 => ?_))
  have h := h v_6 μ_5 hq_7
  refine g_icmp_ge (tgt := 190) dX10_deeds_63 (by decide) (fun c_8 => ?_) (fun c_8 => ?_)
  · have h := h.1 c_8
    refine g_iload dX10_deeds_190 rfl ?_
    refine g_iconst (-1 : Int32) dX10_deeds_192 rfl ?_
    refine g_icmp_ne (tgt := 199) dX10_deeds_193 (by decide) (fun c_9 => ?_) (fun c_9 => ?_)
    · have h := h.1 c_9
      refine g_iload_n dX10_deeds_199 rfl ?_
      refine g_iconst (4 : Int32) dX10_deeds_200 rfl ?_
      refine g_icmp_ne (tgt := 207) dX10_deeds_201 (by decide) (fun c_10 => ?_) (fun c_10 => ?_)
      · have h := h.1 c_10
        refine g_iload dX10_deeds_207 rfl ?_
        refine g_iload_n dX10_deeds_209 rfl ?_
        refine g_iconst (1 : Int32) dX10_deeds_210 rfl ?_
        refine g_isub dX10_deeds_211 ?_
        refine g_iload_n dX10_deeds_212 rfl ?_
        refine g_isub dX10_deeds_213 ?_
        obtain ⟨d_11, q_12, hd_13, hc_14, h⟩ := h
        refine g_callS ca_X10_410 hc_14 hd_13 (by decide) rfl rfl (by first | exact Nat.le_of_ble_eq_true rfl | decide) dX10_deeds_214 (kI (fun v_16 μ_15 hq_17 => ?_))
        have h := h v_16 μ_15 hq_17
        obtain ⟨nz_18, h⟩ := h
        refine g_idiv dX10_deeds_217 nz_18 ?_
        refine g_iconst (5 : Int32) dX10_deeds_218 rfl ?_
        refine g_irem dX10_deeds_219 (by decide) ?_
        exact g_iret dX10_deeds_220 rfl rfl ⟨_, rfl, h⟩
      · have h := h.2 c_10
        refine g_iload dX10_deeds_204 rfl ?_
        exact g_iret dX10_deeds_206 rfl rfl ⟨_, rfl, h⟩
    · have h := h.2 c_9
      refine g_bipush (-3 : Int32) dX10_deeds_196 rfl ?_
      exact g_iret dX10_deeds_198 rfl rfl ⟨_, rfl, h⟩
  · have h := h.2 c_8
    refine g_aload_n dX10_deeds_66 rfl ?_
    refine g_gfR fl_10_78 rfl hr0 dX10_deeds_67 ?_
    refine g_iload_n dX10_deeds_70 rfl ?_
    obtain ⟨j_19, hj_19, ej_19, h⟩ := h
    refine g_iald j_19 hr0 rfl hj_19 (by decide) ej_19 dX10_deeds_71 ?_
    refine g_aload_n dX10_deeds_72 rfl ?_
    refine g_iconst (0 : Int32) dX10_deeds_73 rfl ?_
    refine g_iload_n dX10_deeds_74 rfl ?_
    refine g_aload_n dX10_deeds_75 rfl ?_
    refine g_gfR fl_10_34 rfl hr0 dX10_deeds_76 ?_
    obtain ⟨d_20, q_21, hd_22, hc_23, h⟩ := h
    refine g_cV ca_X10_355 ob_10 hc_23 hd_22 (by decide) hr0 rfl rfl (by first | exact Nat.le_of_ble_eq_true rfl | decide) dX10_deeds_79 (kI (fun v_25 μ_24 hq_26 => ?_))
    have h := h v_25 μ_24 hq_26
    refine g_iadd dX10_deeds_82 ?_
    refine g_istore dX10_deeds_83 (by decide) (fun x7_27 ex7_27 => g_sub (lv' := [(0, .ref (D.2.2 10 r0)), (1, .int x1), (2, .int x2), (3, .int x3), (4, .int x4), (5, .int x5), (6, .int x6), (7, .int x7_27)]) [1, 2, 3, 4, 5, 6, 7, 0] rfl ?_)
    have h := h x7_27 ex7_27
    refine g_iconst (0 : Int32) dX10_deeds_85 rfl ?_
    refine g_istore dX10_deeds_86 (by decide) (fun x8_28 ex8_28 => g_sub (lv' := [(0, .ref (D.2.2 10 r0)), (1, .int x1), (2, .int x2), (3, .int x3), (4, .int x4), (5, .int x5), (6, .int x6), (7, .int x7_27), (8, .int x8_28)]) [1, 2, 3, 4, 5, 6, 7, 8, 0] rfl ?_)
    have h := h x8_28 ex8_28
    refine g_iconst (0 : Int32) dX10_deeds_88 rfl ?_
    refine g_istore dX10_deeds_89 (by decide) (fun x9_29 ex9_29 => g_sub (lv' := [(0, .ref (D.2.2 10 r0)), (1, .int x1), (2, .int x2), (3, .int x3), (4, .int x4), (5, .int x5), (6, .int x6), (7, .int x7_27), (8, .int x8_28), (9, .int x9_29)]) [1, 2, 3, 4, 5, 6, 7, 8, 9, 0] rfl ?_)
    have h := h x9_29 ex9_29
    exact g_sub [0, 1, 2, 3, 4, 5, 6, 7, 8, 9] rfl h
set_option maxRecDepth 20000 in
set_option maxHeartbeats 4000000 in
theorem bl_X10_deeds_3 {l : Launch} {D : gD} {d : Nat} {q : Int32 → gMem → Prop} {Γ : gC} {r0 : Nat} {x1 : Int32} {x2 : Int32} {x3 : Int32} {x4 : Int32} {x5 : Int32} {x6 : Int32} {x7 : Int32} {x8 : Int32} {x9 : Int32} {μ : gMem} (hr0 : r0 < 1) (h : ((x3 ≤ x9) → ∃ j_2 : Nat, j_2 < 115 ∧ x1 = nI j_2 ∧ (((x7 < (μ.1 740 r0 j_2)) → pt_X10_deeds_5 l D d q Γ r0 x1 x2 x3 x4 x5 x6 μ) ∧ ((¬ x7 < (μ.1 740 r0 j_2)) → ((x4 = (-1 : Int32)) → pt_X10_deeds_4 l D d q Γ r0 x1 x2 x3 x6 x8 μ) ∧ ((¬ x4 = (-1 : Int32)) → ((x8 < x5) → pt_X10_deeds_4 l D d q Γ r0 x1 x2 x3 x6 x8 μ) ∧ ((¬ x8 < x5) → pt_X10_deeds_5 l D d q Γ r0 x1 x2 x3 x4 x5 x6 μ))))) ∧ ((¬ x3 ≤ x9) → ∃ (d_6 : Nat) (q_7 : Int32 → gMem → Prop), d_6 < d ∧ Ctr l D d_6 yX10_fives cX10_fives 3 (some .int) [.int ((x3 - (1 : Int32)) - x9)] μ (pI q_7) ∧ ∀ (v_11 : Int32) (μ_10 : gMem), q_7 v_11 μ_10 → (¬ v_11 = 0) ∧ (∀ x10_14 : Int32, x10_14 = (x6 / v_11) - (x6 / v_11) / (5 : Int32) * (5 : Int32) → ∃ j_15 : Nat, j_15 < 12 ∧ x9 = nI j_15 ∧ (∀ x7_16 : Int32, x7_16 = x7 + (x10_14 * (μ_10.1 714 r0 j_15)) → ∃ j_17 : Nat, j_17 < 12 ∧ x9 = nI j_17 ∧ (∀ x8_18 : Int32, x8_18 = x8 + (x10_14 * (μ_10.1 715 r0 j_17)) → ∀ x9_19 : Int32, x9_19 = x9 + (1 : Int32) → pt_X10_deeds_3 l D d q Γ r0 x1 x2 x3 x4 x5 x6 x7_16 x8_18 x9_19 μ_10))))) : pt_X10_deeds_3 l D d q Γ r0 x1 x2 x3 x4 x5 x6 x7 x8 x9 μ := by
  unfold pt_X10_deeds_3
  refine g_iload dX10_deeds_91 rfl ?_
  refine g_iload_n dX10_deeds_93 rfl ?_
  refine g_icmp_ge (tgt := 149) dX10_deeds_94 (by decide) (fun c_1 => ?_) (fun c_1 => ?_)
  · have h := h.1 c_1
    refine g_iload dX10_deeds_149 rfl ?_
    refine g_aload_n dX10_deeds_151 rfl ?_
    refine g_gfR fl_10_75 rfl hr0 dX10_deeds_152 ?_
    refine g_iload_n dX10_deeds_155 rfl ?_
    obtain ⟨j_2, hj_2, ej_2, h⟩ := h
    refine g_iald j_2 hr0 rfl hj_2 (by decide) ej_2 dX10_deeds_156 ?_
    refine g_icmp_lt (tgt := 184) dX10_deeds_157 (by decide) (fun c_3 => ?_) (fun c_3 => ?_)
    · have h := h.1 c_3
      exact g_sub [0, 1, 2, 3, 4, 5, 6] rfl h
    · have h := h.2 c_3
      refine g_iload dX10_deeds_160 rfl ?_
      refine g_iconst (-1 : Int32) dX10_deeds_162 rfl ?_
      refine g_icmp_eq (tgt := 176) dX10_deeds_163 (by decide) (fun c_4 => ?_) (fun c_4 => ?_)
      · have h := h.1 c_4
        exact g_sub [0, 1, 2, 3, 6, 8] rfl h
      · have h := h.2 c_4
        refine g_iload dX10_deeds_166 rfl ?_
        refine g_iload dX10_deeds_168 rfl ?_
        refine g_icmp_lt (tgt := 176) dX10_deeds_170 (by decide) (fun c_5 => ?_) (fun c_5 => ?_)
        · have h := h.1 c_5
          exact g_sub [0, 1, 2, 3, 6, 8] rfl h
        · have h := h.2 c_5
          refine g_goto (tgt := 184) dX10_deeds_173 (by decide) ?_
          exact g_sub [0, 1, 2, 3, 4, 5, 6] rfl h
  · have h := h.2 c_1
    refine g_iload dX10_deeds_97 rfl ?_
    refine g_iload_n dX10_deeds_99 rfl ?_
    refine g_iconst (1 : Int32) dX10_deeds_100 rfl ?_
    refine g_isub dX10_deeds_101 ?_
    refine g_iload dX10_deeds_102 rfl ?_
    refine g_isub dX10_deeds_104 ?_
    obtain ⟨d_6, q_7, hd_8, hc_9, h⟩ := h
    refine g_callS ca_X10_410 hc_9 hd_8 (by decide) rfl rfl (by first | exact Nat.le_of_ble_eq_true rfl | decide) dX10_deeds_105 (kI (fun v_11 μ_10 hq_12 => ?_))
    have h := h v_11 μ_10 hq_12
    obtain ⟨nz_13, h⟩ := h
    refine g_idiv dX10_deeds_108 nz_13 ?_
    refine g_iconst (5 : Int32) dX10_deeds_109 rfl ?_
    refine g_irem dX10_deeds_110 (by decide) ?_
    refine g_istore dX10_deeds_111 (by decide) (fun x10_14 ex10_14 => g_sub (lv' := [(0, .ref (D.2.2 10 r0)), (1, .int x1), (2, .int x2), (3, .int x3), (4, .int x4), (5, .int x5), (6, .int x6), (7, .int x7), (8, .int x8), (9, .int x9), (10, .int x10_14)]) [1, 2, 3, 4, 5, 6, 7, 8, 9, 10, 0] rfl ?_)
    have h := h x10_14 ex10_14
    refine g_iload dX10_deeds_113 rfl ?_
    refine g_iload dX10_deeds_115 rfl ?_
    refine g_aload_n dX10_deeds_117 rfl ?_
    refine g_gfR fl_10_34 rfl hr0 dX10_deeds_118 ?_
    refine g_iload dX10_deeds_121 rfl ?_
    obtain ⟨j_15, hj_15, ej_15, h⟩ := h
    refine g_iald j_15 hr0 rfl hj_15 (by decide) ej_15 dX10_deeds_123 ?_
    refine g_imul dX10_deeds_124 ?_
    refine g_iadd dX10_deeds_125 ?_
    refine g_istore dX10_deeds_126 (by decide) (fun x7_16 ex7_16 => g_sub (lv' := [(0, .ref (D.2.2 10 r0)), (1, .int x1), (2, .int x2), (3, .int x3), (4, .int x4), (5, .int x5), (6, .int x6), (7, .int x7_16), (8, .int x8), (9, .int x9), (10, .int x10_14)]) [1, 2, 3, 4, 5, 6, 7, 0, 8, 9, 10] rfl ?_)
    have h := h x7_16 ex7_16
    refine g_iload dX10_deeds_128 rfl ?_
    refine g_iload dX10_deeds_130 rfl ?_
    refine g_aload_n dX10_deeds_132 rfl ?_
    refine g_gfR fl_10_37 rfl hr0 dX10_deeds_133 ?_
    refine g_iload dX10_deeds_136 rfl ?_
    obtain ⟨j_17, hj_17, ej_17, h⟩ := h
    refine g_iald j_17 hr0 rfl hj_17 (by decide) ej_17 dX10_deeds_138 ?_
    refine g_imul dX10_deeds_139 ?_
    refine g_iadd dX10_deeds_140 ?_
    refine g_istore dX10_deeds_141 (by decide) (fun x8_18 ex8_18 => g_sub (lv' := [(0, .ref (D.2.2 10 r0)), (1, .int x1), (2, .int x2), (3, .int x3), (4, .int x4), (5, .int x5), (6, .int x6), (7, .int x7_16), (8, .int x8_18), (9, .int x9)]) [1, 2, 3, 4, 5, 6, 7, 8, 0, 9] rfl ?_)
    have h := h x8_18 ex8_18
    refine g_iinc dX10_deeds_143 rfl (by decide) (fun x9_19 ex9_19 => g_sub (lv' := [(0, .ref (D.2.2 10 r0)), (1, .int x1), (2, .int x2), (3, .int x3), (4, .int x4), (5, .int x5), (6, .int x6), (7, .int x7_16), (8, .int x8_18), (9, .int x9_19)]) [1, 2, 3, 4, 5, 6, 7, 8, 9, 0] rfl ?_)
    have h := h x9_19 ex9_19
    refine g_goto (tgt := 91) dX10_deeds_146 (by decide) ?_
    exact g_sub [0, 1, 2, 3, 4, 5, 6, 7, 8, 9] rfl h
set_option maxRecDepth 20000 in
set_option maxHeartbeats 4000000 in
theorem bl_X10_deeds_4 {l : Launch} {D : gD} {d : Nat} {q : Int32 → gMem → Prop} {Γ : gC} {r0 : Nat} {x1 : Int32} {x2 : Int32} {x3 : Int32} {x6 : Int32} {x8 : Int32} {μ : gMem} (hr0 : r0 < 1) (h : ∀ x4_1 : Int32, x4_1 = x6 → ∀ x5_2 : Int32, x5_2 = x8 → pt_X10_deeds_5 l D d q Γ r0 x1 x2 x3 x4_1 x5_2 x6 μ) : pt_X10_deeds_4 l D d q Γ r0 x1 x2 x3 x6 x8 μ := by
  unfold pt_X10_deeds_4
  refine g_iload dX10_deeds_176 rfl ?_
  refine g_istore dX10_deeds_178 (by decide) (fun x4_1 ex4_1 => g_sub (lv' := [(0, .ref (D.2.2 10 r0)), (1, .int x1), (2, .int x2), (3, .int x3), (4, .int x4_1), (6, .int x6), (8, .int x8)]) [1, 2, 3, 4, 0, 5, 6] rfl ?_)
  have h := h x4_1 ex4_1
  refine g_iload dX10_deeds_180 rfl ?_
  refine g_istore dX10_deeds_182 (by decide) (fun x5_2 ex5_2 => g_sub (lv' := [(0, .ref (D.2.2 10 r0)), (1, .int x1), (2, .int x2), (3, .int x3), (4, .int x4_1), (5, .int x5_2), (6, .int x6)]) [1, 2, 3, 4, 5, 0, 6] rfl ?_)
  have h := h x5_2 ex5_2
  exact g_sub [0, 1, 2, 3, 4, 5, 6] rfl h
set_option maxRecDepth 20000 in
set_option maxHeartbeats 4000000 in
theorem bl_X10_deeds_5 {l : Launch} {D : gD} {d : Nat} {q : Int32 → gMem → Prop} {Γ : gC} {r0 : Nat} {x1 : Int32} {x2 : Int32} {x3 : Int32} {x4 : Int32} {x5 : Int32} {x6 : Int32} {μ : gMem} (hr0 : r0 < 1) (h : ∀ x6_1 : Int32, x6_1 = x6 + (1 : Int32) → pt_X10_deeds_2 l D d q Γ r0 x1 x2 x3 x4 x5 x6_1 μ) : pt_X10_deeds_5 l D d q Γ r0 x1 x2 x3 x4 x5 x6 μ := by
  unfold pt_X10_deeds_5
  refine g_iinc dX10_deeds_184 rfl (by decide) (fun x6_1 ex6_1 => g_sub (lv' := [(0, .ref (D.2.2 10 r0)), (1, .int x1), (2, .int x2), (3, .int x3), (4, .int x4), (5, .int x5), (6, .int x6_1)]) [1, 2, 3, 4, 5, 6, 0] rfl ?_)
  have h := h x6_1 ex6_1
  refine g_goto (tgt := 57) dX10_deeds_187 (by decide) ?_
  exact g_sub [0, 1, 2, 3, 4, 5, 6] rfl h
theorem en_X10_deeds {l : Launch} {D : gD} {d : Nat} {q : Int32 → gMem → Prop} {r0 : Nat} {x1 : Int32} {x2 : Int32} {μ : gMem} (h : ∀ Γ : gC, pt_X10_deeds_0 l D d q Γ r0 x1 x2 μ) : Ctr l D d yX10_deeds cX10_deeds 11 (some .int) [.ref (D.2.2 10 r0), .int x1, .int x2] μ (pI q) :=
  Ctr_of rfl (by decide) (Nat.le_of_ble_eq_true rfl) (fun Γ => g_sub [0, 1, 2] rfl (h Γ))
def pt_X10_leads_0 (l : Launch) (D : gD) (d : Nat) (q : Int32 → gMem → Prop) (Γ : gC) (r0 : Nat) (μ : gMem) : Prop := G l D RX10 cX10_leads 1 (some .int) d (pI q) Γ 0 [(0, .ref (D.2.2 10 r0))] [] μ
set_option maxRecDepth 20000 in
set_option maxHeartbeats 4000000 in
theorem bl_X10_leads_0 {l : Launch} {D : gD} {d : Nat} {q : Int32 → gMem → Prop} {Γ : gC} {r0 : Nat} {μ : gMem} (hr0 : r0 < 1) (h : ∀ μ_1 : gMem, μ_1 = gsI μ 10 r0 0 (0 : Int32) → ∃ (d_2 : Nat) (q_3 : Int32 → gMem → Prop), d_2 < d ∧ Ctr l D d_2 yX10_leader cX10_leader 4 (some .int) [.ref (D.2.2 10 r0), .int (0 : Int32)] μ_1 (pI q_3) ∧ ∀ (v_7 : Int32) (μ_6 : gMem), q_3 v_7 μ_6 → q v_7 μ_6) : pt_X10_leads_0 l D d q Γ r0 μ := by
  unfold pt_X10_leads_0
  refine g_aload_n dX10_leads_0 rfl ?_
  refine g_iconst (0 : Int32) dX10_leads_1 rfl ?_
  refine g_pfI fi_10_145 hr0 rfl rfl dX10_leads_2 ?_
  obtain ⟨μ_1, eμ_1⟩ : ∃ z : gMem, z = gsI μ 10 r0 0 (0 : Int32) := ⟨_, rfl⟩
  have h := h μ_1 eμ_1
  refine g_mem eμ_1.symm ?_
  refine g_aload_n dX10_leads_5 rfl ?_
  refine g_iconst (0 : Int32) dX10_leads_6 rfl ?_
  obtain ⟨d_2, q_3, hd_4, hc_5, h⟩ := h
  refine g_cV ca_X10_384 ob_10 hc_5 hd_4 (by decide) hr0 rfl rfl (by first | exact Nat.le_of_ble_eq_true rfl | decide) dX10_leads_7 (kI (fun v_7 μ_6 hq_8 => ?_))
  have h := h v_7 μ_6 hq_8
  exact g_iret dX10_leads_10 rfl rfl ⟨_, rfl, h⟩
theorem en_X10_leads {l : Launch} {D : gD} {d : Nat} {q : Int32 → gMem → Prop} {r0 : Nat} {μ : gMem} (h : ∀ Γ : gC, pt_X10_leads_0 l D d q Γ r0 μ) : Ctr l D d yX10_leads cX10_leads 1 (some .int) [.ref (D.2.2 10 r0)] μ (pI q) :=
  Ctr_of rfl (by decide) (Nat.le_of_ble_eq_true rfl) (fun Γ => g_sub [0] rfl (h Γ))
def pt_X10_winsFrom_0 (l : Launch) (D : gD) (d : Nat) (q : Int32 → gMem → Prop) (Γ : gC) (r0 : Nat) (μ : gMem) : Prop := G l D RX10 cX10_winsFrom 1 (some .int) d (pI q) Γ 0 [(0, .ref (D.2.2 10 r0))] [] μ
set_option maxRecDepth 20000 in
set_option maxHeartbeats 4000000 in
theorem bl_X10_winsFrom_0 {l : Launch} {D : gD} {d : Nat} {q : Int32 → gMem → Prop} {Γ : gC} {r0 : Nat} {μ : gMem} (hr0 : r0 < 1) (h : ∃ (d_1 : Nat) (q_2 : gMem → Prop), d_1 < d ∧ Ctr l D d_1 yX10_passes cX10_passes 6 none [.ref (D.2.2 10 r0), .int (1 : Int32), .int (0 : Int32)] μ (pV q_2) ∧ ∀ (μ_5 : gMem), q_2 μ_5 → (((μ_5.1 10 r0 48) = (-1 : Int32)) → pt_X10_winsFrom_0 l D d q Γ r0 μ_5) ∧ ((¬ (μ_5.1 10 r0 48) = (-1 : Int32)) → q (μ_5.1 10 r0 48) μ_5)) : pt_X10_winsFrom_0 l D d q Γ r0 μ := by
  unfold pt_X10_winsFrom_0
  refine g_aload_n dX10_winsFrom_0 rfl ?_
  refine g_iconst (1 : Int32) dX10_winsFrom_1 rfl ?_
  refine g_iconst (0 : Int32) dX10_winsFrom_2 rfl ?_
  obtain ⟨d_1, q_2, hd_3, hc_4, h⟩ := h
  refine g_cV ca_X10_390 ob_10 hc_4 hd_3 (by decide) hr0 rfl rfl (by first | exact Nat.le_of_ble_eq_true rfl | decide) dX10_winsFrom_3 (kV (fun μ_5 hq_7 => ?_))
  have h := h μ_5 hq_7
  refine g_aload_n dX10_winsFrom_6 rfl ?_
  refine g_gfI fi_10_381 hr0 dX10_winsFrom_7 ?_
  refine g_iconst (-1 : Int32) dX10_winsFrom_10 rfl ?_
  refine g_icmp_eq (tgt := 0) dX10_winsFrom_11 (by decide) (fun c_8 => ?_) (fun c_8 => ?_)
  · have h := h.1 c_8
    exact g_sub [0] rfl h
  · have h := h.2 c_8
    refine g_aload_n dX10_winsFrom_14 rfl ?_
    refine g_gfI fi_10_381 hr0 dX10_winsFrom_15 ?_
    exact g_iret dX10_winsFrom_18 rfl rfl ⟨_, rfl, h⟩
theorem en_X10_winsFrom {l : Launch} {D : gD} {d : Nat} {q : Int32 → gMem → Prop} {r0 : Nat} {μ : gMem} (h : ∀ Γ : gC, pt_X10_winsFrom_0 l D d q Γ r0 μ) : Ctr l D d yX10_winsFrom cX10_winsFrom 1 (some .int) [.ref (D.2.2 10 r0)] μ (pI q) :=
  Ctr_of rfl (by decide) (Nat.le_of_ble_eq_true rfl) (fun Γ => g_sub [0] rfl (h Γ))
def pt_X10_winner_0 (l : Launch) (D : gD) (d : Nat) (q : Int32 → gMem → Prop) (Γ : gC) (r0 : Nat) (x1 : Int32) (μ : gMem) : Prop := G l D RX10 cX10_winner 3 (some .int) d (pI q) Γ 0 [(0, .ref (D.2.2 10 r0)), (1, .int x1)] [] μ
set_option maxRecDepth 20000 in
set_option maxHeartbeats 4000000 in
theorem bl_X10_winner_0 {l : Launch} {D : gD} {d : Nat} {q : Int32 → gMem → Prop} {Γ : gC} {r0 : Nat} {x1 : Int32} {μ : gMem} (hr0 : r0 < 1) (h : ∀ μ_1 : gMem, μ_1 = gsI μ 10 r0 0 (0 : Int32) → ((x1 < 0) → q (-1 : Int32) μ_1) ∧ ((¬ x1 < 0) → (((1 : Int32) < x1) → q (-1 : Int32) μ_1) ∧ ((¬ (1 : Int32) < x1) → ((¬ (μ_1.1 707 r0 0) = 0) → ∃ (d_6 : Nat) (q_7 : gMem → Prop), d_6 < d ∧ Ctr l D d_6 yX10_copies cX10_copies 6 none [.ref (D.2.2 10 r0), .int (1 : Int32), .int (0 : Int32)] μ_1 (pV q_7) ∧ ∀ (μ_10 : gMem), q_7 μ_10 → ∃ (d_13 : Nat) (q_14 : Int32 → gMem → Prop), d_13 < d ∧ Ctr l D d_13 yX10_winsFrom cX10_winsFrom 1 (some .int) [.ref (D.2.2 10 r0)] μ_10 (pI q_14) ∧ ∀ (v_18 : Int32) (μ_17 : gMem), q_14 v_18 μ_17 → ∀ x2_20 : Int32, x2_20 = v_18 → ((¬ x1 = 0) → q ((μ_17.1 737 r0 1) - (μ_17.1 737 r0 0)) μ_17) ∧ ((x1 = 0) → q x2_20 μ_17)) ∧ (((μ_1.1 707 r0 0) = 0) → q (-1 : Int32) μ_1)))) : pt_X10_winner_0 l D d q Γ r0 x1 μ := by
  unfold pt_X10_winner_0
  refine g_aload_n dX10_winner_0 rfl ?_
  refine g_iconst (0 : Int32) dX10_winner_1 rfl ?_
  refine g_pfI fi_10_145 hr0 rfl rfl dX10_winner_2 ?_
  obtain ⟨μ_1, eμ_1⟩ : ∃ z : gMem, z = gsI μ 10 r0 0 (0 : Int32) := ⟨_, rfl⟩
  have h := h μ_1 eμ_1
  refine g_mem eμ_1.symm ?_
  refine g_iload_n dX10_winner_5 rfl ?_
  refine g_if_lt (tgt := 23) dX10_winner_6 (by decide) (fun c_2 => ?_) (fun c_2 => ?_)
  · have h := h.1 c_2
    refine g_iconst (-1 : Int32) dX10_winner_23 rfl ?_
    exact g_iret dX10_winner_24 rfl rfl ⟨_, rfl, h⟩
  · have h := h.2 c_2
    refine g_iload_n dX10_winner_9 rfl ?_
    refine g_iconst (1 : Int32) dX10_winner_10 rfl ?_
    refine g_icmp_gt (tgt := 23) dX10_winner_11 (by decide) (fun c_3 => ?_) (fun c_3 => ?_)
    · have h := h.1 c_3
      refine g_iconst (-1 : Int32) dX10_winner_23 rfl ?_
      exact g_iret dX10_winner_24 rfl rfl ⟨_, rfl, h⟩
    · have h := h.2 c_3
      refine g_aload_n dX10_winner_14 rfl ?_
      refine g_gfR fl_10_13 rfl hr0 dX10_winner_15 ?_
      refine g_iconst (0 : Int32) dX10_winner_18 rfl ?_
      refine g_iald 0 hr0 rfl (by decide) (by decide) rfl dX10_winner_19 ?_
      refine g_if_ne (tgt := 25) dX10_winner_20 (by decide) (fun c_5 => ?_) (fun c_5 => ?_)
      · have h := h.1 c_5
        refine g_aload_n dX10_winner_25 rfl ?_
        refine g_iconst (1 : Int32) dX10_winner_26 rfl ?_
        refine g_iconst (0 : Int32) dX10_winner_27 rfl ?_
        obtain ⟨d_6, q_7, hd_8, hc_9, h⟩ := h
        refine g_cV ca_X10_387 ob_10 hc_9 hd_8 (by decide) hr0 rfl rfl (by first | exact Nat.le_of_ble_eq_true rfl | decide) dX10_winner_28 (kV (fun μ_10 hq_12 => ?_))
        have h := h μ_10 hq_12
        refine g_aload_n dX10_winner_31 rfl ?_
        obtain ⟨d_13, q_14, hd_15, hc_16, h⟩ := h
        refine g_cV ca_X10_413 ob_10 hc_16 hd_15 (by decide) hr0 rfl rfl (by first | exact Nat.le_of_ble_eq_true rfl | decide) dX10_winner_32 (kI (fun v_18 μ_17 hq_19 => ?_))
        have h := h v_18 μ_17 hq_19
        refine g_istore_n dX10_winner_35 (by decide) (fun x2_20 ex2_20 => g_sub (lv' := [(0, .ref (D.2.2 10 r0)), (1, .int x1), (2, .int x2_20)]) [1, 2, 0] rfl ?_)
        have h := h x2_20 ex2_20
        refine g_iload_n dX10_winner_36 rfl ?_
        refine g_if_ne (tgt := 44) dX10_winner_37 (by decide) (fun c_21 => ?_) (fun c_21 => ?_)
        · have h := h.1 c_21
          refine g_aload_n dX10_winner_44 rfl ?_
          refine g_gfR fl_10_66 rfl hr0 dX10_winner_45 ?_
          refine g_iconst (1 : Int32) dX10_winner_48 rfl ?_
          refine g_iald 1 hr0 rfl (by decide) (by decide) rfl dX10_winner_49 ?_
          refine g_aload_n dX10_winner_50 rfl ?_
          refine g_gfR fl_10_66 rfl hr0 dX10_winner_51 ?_
          refine g_iconst (0 : Int32) dX10_winner_54 rfl ?_
          refine g_iald 0 hr0 rfl (by decide) (by decide) rfl dX10_winner_55 ?_
          refine g_isub dX10_winner_56 ?_
          exact g_iret dX10_winner_57 rfl rfl ⟨_, rfl, h⟩
        · have h := h.2 c_21
          refine g_iload_n dX10_winner_40 rfl ?_
          refine g_goto (tgt := 57) dX10_winner_41 (by decide) ?_
          exact g_iret dX10_winner_57 rfl rfl ⟨_, rfl, h⟩
      · have h := h.2 c_5
        refine g_iconst (-1 : Int32) dX10_winner_23 rfl ?_
        exact g_iret dX10_winner_24 rfl rfl ⟨_, rfl, h⟩
theorem en_X10_winner {l : Launch} {D : gD} {d : Nat} {q : Int32 → gMem → Prop} {r0 : Nat} {x1 : Int32} {μ : gMem} (h : ∀ Γ : gC, pt_X10_winner_0 l D d q Γ r0 x1 μ) : Ctr l D d yX10_winner cX10_winner 3 (some .int) [.ref (D.2.2 10 r0), .int x1] μ (pI q) :=
  Ctr_of rfl (by decide) (Nat.le_of_ble_eq_true rfl) (fun Γ => g_sub [0, 1] rfl (h Γ))
def pt_X10_needs_0 (l : Launch) (D : gD) (d : Nat) (q : Int32 → gMem → Prop) (Γ : gC) (r0 : Nat) (x1 : Int32) (μ : gMem) : Prop := G l D RX10 cX10_needs 3 (some .int) d (pI q) Γ 0 [(0, .ref (D.2.2 10 r0)), (1, .int x1)] [] μ
def pt_X10_needs_1 (l : Launch) (D : gD) (d : Nat) (q : Int32 → gMem → Prop) (Γ : gC) (r0 : Nat) (x1 : Int32) (x2 : Int32) (μ : gMem) : Prop := G l D RX10 cX10_needs 3 (some .int) d (pI q) Γ 17 [(0, .ref (D.2.2 10 r0)), (1, .int x1), (2, .int x2)] [] μ
set_option maxRecDepth 20000 in
set_option maxHeartbeats 4000000 in
theorem bl_X10_needs_0 {l : Launch} {D : gD} {d : Nat} {q : Int32 → gMem → Prop} {Γ : gC} {r0 : Nat} {x1 : Int32} {μ : gMem} (hr0 : r0 < 1) (h : ∀ μ_1 : gMem, μ_1 = gsI μ 10 r0 0 (0 : Int32) → (0 < d) ∧ (((¬ (isn x1 (μ_1.1 707 r0 0)) = 0) → ∀ x2_7 : Int32, x2_7 = (0 : Int32) → pt_X10_needs_1 l D d q Γ r0 x1 x2_7 μ_1) ∧ (((isn x1 (μ_1.1 707 r0 0)) = 0) → q (-1 : Int32) μ_1))) : pt_X10_needs_0 l D d q Γ r0 x1 μ := by
  unfold pt_X10_needs_0
  refine g_aload_n dX10_needs_0 rfl ?_
  refine g_iconst (0 : Int32) dX10_needs_1 rfl ?_
  refine g_pfI fi_10_145 hr0 rfl rfl dX10_needs_2 ?_
  obtain ⟨μ_1, eμ_1⟩ : ∃ z : gMem, z = gsI μ 10 r0 0 (0 : Int32) := ⟨_, rfl⟩
  have h := h μ_1 eμ_1
  refine g_mem eμ_1.symm ?_
  refine g_aload_n dX10_needs_5 rfl ?_
  refine g_iload_n dX10_needs_6 rfl ?_
  obtain ⟨hd_2, h⟩ := h
  refine g_cV ca_X10_394 ob_10 (c_X10_isMan (d := 0) (Nat.le_refl _) hr0 ) hd_2 (by decide) hr0 rfl rfl (by first | exact Nat.le_of_ble_eq_true rfl | decide) dX10_needs_7 (kI (fun v_3 μ_4 hq_5 => ?_))
  obtain ⟨ev_3, eμ_4⟩ := hq_5
  subst ev_3
  refine g_mem eμ_4 ?_
  refine g_if_ne (tgt := 15) dX10_needs_10 (by decide) (fun c_6 => ?_) (fun c_6 => ?_)
  · have h := h.1 c_6
    refine g_iconst (0 : Int32) dX10_needs_15 rfl ?_
    refine g_istore_n dX10_needs_16 (by decide) (fun x2_7 ex2_7 => g_sub (lv' := [(0, .ref (D.2.2 10 r0)), (1, .int x1), (2, .int x2_7)]) [1, 2, 0] rfl ?_)
    have h := h x2_7 ex2_7
    exact g_sub [0, 1, 2] rfl h
  · have h := h.2 c_6
    refine g_iconst (-1 : Int32) dX10_needs_13 rfl ?_
    exact g_iret dX10_needs_14 rfl rfl ⟨_, rfl, h⟩
set_option maxRecDepth 20000 in
set_option maxHeartbeats 4000000 in
theorem bl_X10_needs_1 {l : Launch} {D : gD} {d : Nat} {q : Int32 → gMem → Prop} {Γ : gC} {r0 : Nat} {x1 : Int32} {x2 : Int32} {μ : gMem} (hr0 : r0 < 1) (h : (((999 : Int32) < x2) → q (-2 : Int32) μ) ∧ ((¬ (999 : Int32) < x2) → ∃ (d_2 : Nat) (q_3 : gMem → Prop), d_2 < d ∧ Ctr l D d_2 yX10_copies cX10_copies 6 none [.ref (D.2.2 10 r0), .int (1 : Int32), .int (0 : Int32)] μ (pV q_3) ∧ ∀ (μ_6 : gMem), q_3 μ_6 → ∃ j_9 : Nat, j_9 < 115 ∧ (5 : Int32) + x1 = nI j_9 ∧ (∃ j_10 : Nat, j_10 < 115 ∧ (5 : Int32) + x1 = nI j_10 ∧ (∀ μ_11 : gMem, μ_11 = gsI μ_6 744 r0 j_10 ((μ_6.1 744 r0 j_9) + x2) → ∃ (d_12 : Nat) (q_13 : Int32 → gMem → Prop), d_12 < d ∧ Ctr l D d_12 yX10_winsFrom cX10_winsFrom 1 (some .int) [.ref (D.2.2 10 r0)] μ_11 (pI q_13) ∧ ∀ (v_17 : Int32) (μ_16 : gMem), q_13 v_17 μ_16 → ((¬ v_17 = x1) → ∀ x2_20 : Int32, x2_20 = x2 + (1 : Int32) → pt_X10_needs_1 l D d q Γ r0 x1 x2_20 μ_16) ∧ ((v_17 = x1) → q x2 μ_16))))) : pt_X10_needs_1 l D d q Γ r0 x1 x2 μ := by
  unfold pt_X10_needs_1
  refine g_iload_n dX10_needs_17 rfl ?_
  refine g_sipush (999 : Int32) dX10_needs_18 rfl ?_
  refine g_icmp_gt (tgt := 58) dX10_needs_21 (by decide) (fun c_1 => ?_) (fun c_1 => ?_)
  · have h := h.1 c_1
    refine g_bipush (-2 : Int32) dX10_needs_58 rfl ?_
    exact g_iret dX10_needs_60 rfl rfl ⟨_, rfl, h⟩
  · have h := h.2 c_1
    refine g_aload_n dX10_needs_24 rfl ?_
    refine g_iconst (1 : Int32) dX10_needs_25 rfl ?_
    refine g_iconst (0 : Int32) dX10_needs_26 rfl ?_
    obtain ⟨d_2, q_3, hd_4, hc_5, h⟩ := h
    refine g_cV ca_X10_387 ob_10 hc_5 hd_4 (by decide) hr0 rfl rfl (by first | exact Nat.le_of_ble_eq_true rfl | decide) dX10_needs_27 (kV (fun μ_6 hq_8 => ?_))
    have h := h μ_6 hq_8
    refine g_aload_n dX10_needs_30 rfl ?_
    refine g_gfR fl_10_87 rfl hr0 dX10_needs_31 ?_
    refine g_iconst (5 : Int32) dX10_needs_34 rfl ?_
    refine g_iload_n dX10_needs_35 rfl ?_
    refine g_iadd dX10_needs_36 ?_
    refine g_dup2 dX10_needs_37 rfl rfl ?_
    obtain ⟨j_9, hj_9, ej_9, h⟩ := h
    refine g_iald j_9 hr0 rfl hj_9 (by decide) ej_9 dX10_needs_38 ?_
    refine g_iload_n dX10_needs_39 rfl ?_
    refine g_iadd dX10_needs_40 ?_
    obtain ⟨j_10, hj_10, ej_10, h⟩ := h
    refine g_iast j_10 hr0 rfl hj_10 (by decide) ej_10 dX10_needs_41 ?_
    obtain ⟨μ_11, eμ_11⟩ : ∃ z : gMem, z = gsI μ_6 744 r0 j_10 ((μ_6.1 744 r0 j_9) + x2) := ⟨_, rfl⟩
    have h := h μ_11 eμ_11
    refine g_mem eμ_11.symm ?_
    refine g_aload_n dX10_needs_42 rfl ?_
    obtain ⟨d_12, q_13, hd_14, hc_15, h⟩ := h
    refine g_cV ca_X10_413 ob_10 hc_15 hd_14 (by decide) hr0 rfl rfl (by first | exact Nat.le_of_ble_eq_true rfl | decide) dX10_needs_43 (kI (fun v_17 μ_16 hq_18 => ?_))
    have h := h v_17 μ_16 hq_18
    refine g_iload_n dX10_needs_46 rfl ?_
    refine g_icmp_ne (tgt := 52) dX10_needs_47 (by decide) (fun c_19 => ?_) (fun c_19 => ?_)
    · have h := h.1 c_19
      refine g_iinc dX10_needs_52 rfl (by decide) (fun x2_20 ex2_20 => g_sub (lv' := [(0, .ref (D.2.2 10 r0)), (1, .int x1), (2, .int x2_20)]) [1, 2, 0] rfl ?_)
      have h := h x2_20 ex2_20
      refine g_goto (tgt := 17) dX10_needs_55 (by decide) ?_
      exact g_sub [0, 1, 2] rfl h
    · have h := h.2 c_19
      refine g_iload_n dX10_needs_50 rfl ?_
      exact g_iret dX10_needs_51 rfl rfl ⟨_, rfl, h⟩
theorem en_X10_needs {l : Launch} {D : gD} {d : Nat} {q : Int32 → gMem → Prop} {r0 : Nat} {x1 : Int32} {μ : gMem} (h : ∀ Γ : gC, pt_X10_needs_0 l D d q Γ r0 x1 μ) : Ctr l D d yX10_needs cX10_needs 3 (some .int) [.ref (D.2.2 10 r0), .int x1] μ (pI q) :=
  Ctr_of rfl (by decide) (Nat.le_of_ble_eq_true rfl) (fun Γ => g_sub [0, 1] rfl (h Γ))
