def pt_X9_gain_0 (l : Launch) (D : gD) (d : Nat) (q : Int32 → gMem → Prop) (Γ : gC) (r0 : Nat) (x1 : Int32) (x2 : Int32) (x3 : Int32) (μ : gMem) : Prop := G l D RX9 cX9_gain 4 (some .int) d (pI q) Γ 0 [(0, .ref (D.2.2 9 r0)), (1, .int x1), (2, .int x2), (3, .int x3)] [] μ
def pt_X9_gain_1 (l : Launch) (D : gD) (d : Nat) (q : Int32 → gMem → Prop) (Γ : gC) (x2 : Int32) (xs0 : Int32) (μ : gMem) : Prop := G l D RX9 cX9_gain 4 (some .int) d (pI q) Γ 21 [(2, .int x2)] [.int xs0] μ
set_option maxRecDepth 20000 in
set_option maxHeartbeats 4000000 in
theorem bl_X9_gain_0 {l : Launch} {D : gD} {d : Nat} {q : Int32 → gMem → Prop} {Γ : gC} {r0 : Nat} {x1 : Int32} {x2 : Int32} {x3 : Int32} {μ : gMem} (hr0 : r0 < 1) (h : ∃ j_1 : Nat, j_1 < 25 ∧ x3 = nI j_1 ∧ (((¬ (μ.1 649 r0 j_1) = x1) → pt_X9_gain_1 l D d q Γ x2 (0 : Int32) μ) ∧ (((μ.1 649 r0 j_1) = x1) → (μ.2.2 0 < 2) ∧ (pt_X9_gain_1 l D d q Γ x2 (μ.1 7 (μ.2.2 0) 12) μ)))) : pt_X9_gain_0 l D d q Γ r0 x1 x2 x3 μ := by
  unfold pt_X9_gain_0
  refine g_aload_n dX9_gain_0 rfl ?_
  refine g_gfR fl_9_62 rfl hr0 dX9_gain_1 ?_
  refine g_iload_n dX9_gain_4 rfl ?_
  obtain ⟨j_1, hj_1, ej_1, h⟩ := h
  refine g_iald j_1 hr0 rfl hj_1 (by decide) ej_1 dX9_gain_5 ?_
  refine g_iload_n dX9_gain_6 rfl ?_
  refine g_icmp_ne (tgt := 20) dX9_gain_7 (by decide) (fun c_2 => ?_) (fun c_2 => ?_)
  · have h := h.1 c_2
    refine g_iconst (0 : Int32) dX9_gain_20 rfl ?_
    exact g_sub [2] rfl h
  · have h := h.2 c_2
    refine g_aload_n dX9_gain_10 rfl ?_
    obtain ⟨hR_3, h⟩ := h
    refine g_gfR fl_9_28 rfl hr0 dX9_gain_11 ?_
    refine g_gfI fi_9_360 hR_3 dX9_gain_14 ?_
    refine g_goto (tgt := 21) dX9_gain_17 (by decide) ?_
    exact g_sub [2] rfl h
set_option maxRecDepth 20000 in
set_option maxHeartbeats 4000000 in
theorem bl_X9_gain_1 {l : Launch} {D : gD} {d : Nat} {q : Int32 → gMem → Prop} {Γ : gC} {x2 : Int32} {xs0 : Int32} {μ : gMem}  (h : q (xs0 - ((3 : Int32) * x2)) μ) : pt_X9_gain_1 l D d q Γ x2 xs0 μ := by
  unfold pt_X9_gain_1
  refine g_iconst (3 : Int32) dX9_gain_21 rfl ?_
  refine g_iload_n dX9_gain_22 rfl ?_
  refine g_imul dX9_gain_23 ?_
  refine g_isub dX9_gain_24 ?_
  exact g_iret dX9_gain_25 rfl rfl ⟨_, rfl, h⟩
theorem en_X9_gain {l : Launch} {D : gD} {d : Nat} {q : Int32 → gMem → Prop} {r0 : Nat} {x1 : Int32} {x2 : Int32} {x3 : Int32} {μ : gMem} (h : ∀ Γ : gC, pt_X9_gain_0 l D d q Γ r0 x1 x2 x3 μ) : Ctr l D d yX9_gain cX9_gain 4 (some .int) [.ref (D.2.2 9 r0), .int x1, .int x2, .int x3] μ (pI q) :=
  Ctr_of rfl (by decide) (Nat.le_of_ble_eq_true rfl) (fun Γ => g_sub [0, 1, 2, 3] rfl (h Γ))
def pt_X9_isRest_0 (l : Launch) (D : gD) (d : Nat) (q : Int32 → gMem → Prop) (Γ : gC) (r0 : Nat) (x1 : Int32) (x2 : Int32) (x3 : Int32) (μ : gMem) : Prop := G l D RX9 cX9_isRest 7 (some .boolean) d (pI q) Γ 0 [(0, .ref (D.2.2 9 r0)), (1, .int x1), (2, .int x2), (3, .int x3)] [] μ
def pt_X9_isRest_1 (l : Launch) (D : gD) (d : Nat) (q : Int32 → gMem → Prop) (Γ : gC) (r0 : Nat) (x1 : Int32) (x2 : Int32) (x3 : Int32) (x4 : Int32) (x5 : Int32) (x6 : Int32) (μ : gMem) : Prop := G l D RX9 cX9_isRest 7 (some .boolean) d (pI q) Γ 13 [(0, .ref (D.2.2 9 r0)), (1, .int x1), (2, .int x2), (3, .int x3), (4, .int x4), (5, .int x5), (6, .int x6)] [] μ
set_option maxRecDepth 20000 in
set_option maxHeartbeats 4000000 in
theorem bl_X9_isRest_0 {l : Launch} {D : gD} {d : Nat} {q : Int32 → gMem → Prop} {Γ : gC} {r0 : Nat} {x1 : Int32} {x2 : Int32} {x3 : Int32} {μ : gMem} (hr0 : r0 < 1) (h : ∀ x4_1 : Int32, x4_1 = x3 / (5 : Int32) → ∀ x5_2 : Int32, x5_2 = x3 - x3 / (5 : Int32) * (5 : Int32) → ∀ x6_3 : Int32, x6_3 = (0 : Int32) → pt_X9_isRest_1 l D d q Γ r0 x1 x2 x3 x4_1 x5_2 x6_3 μ) : pt_X9_isRest_0 l D d q Γ r0 x1 x2 x3 μ := by
  unfold pt_X9_isRest_0
  refine g_iload_n dX9_isRest_0 rfl ?_
  refine g_iconst (5 : Int32) dX9_isRest_1 rfl ?_
  refine g_idiv dX9_isRest_2 (by decide) ?_
  refine g_istore dX9_isRest_3 (by decide) (fun x4_1 ex4_1 => g_sub (lv' := [(0, .ref (D.2.2 9 r0)), (1, .int x1), (2, .int x2), (3, .int x3), (4, .int x4_1)]) [1, 2, 3, 4, 0] rfl ?_)
  have h := h x4_1 ex4_1
  refine g_iload_n dX9_isRest_5 rfl ?_
  refine g_iconst (5 : Int32) dX9_isRest_6 rfl ?_
  refine g_irem dX9_isRest_7 (by decide) ?_
  refine g_istore dX9_isRest_8 (by decide) (fun x5_2 ex5_2 => g_sub (lv' := [(0, .ref (D.2.2 9 r0)), (1, .int x1), (2, .int x2), (3, .int x3), (4, .int x4_1), (5, .int x5_2)]) [1, 2, 3, 4, 5, 0] rfl ?_)
  have h := h x5_2 ex5_2
  refine g_iconst (0 : Int32) dX9_isRest_10 rfl ?_
  refine g_istore dX9_isRest_11 (by decide) (fun x6_3 ex6_3 => g_sub (lv' := [(0, .ref (D.2.2 9 r0)), (1, .int x1), (2, .int x2), (3, .int x3), (4, .int x4_1), (5, .int x5_2), (6, .int x6_3)]) [1, 2, 3, 4, 5, 6, 0] rfl ?_)
  have h := h x6_3 ex6_3
  exact g_sub [0, 1, 2, 3, 4, 5, 6] rfl h
set_option maxRecDepth 20000 in
set_option maxHeartbeats 4000000 in
theorem bl_X9_isRest_1 {l : Launch} {D : gD} {d : Nat} {q : Int32 → gMem → Prop} {Γ : gC} {r0 : Nat} {x1 : Int32} {x2 : Int32} {x3 : Int32} {x4 : Int32} {x5 : Int32} {x6 : Int32} {μ : gMem} (hr0 : r0 < 1) (h : (((5 : Int32) ≤ x6) → q (1 : Int32) μ) ∧ ((¬ (5 : Int32) ≤ x6) → ∃ (d_2 : Nat) (q_3 : Int32 → gMem → Prop), d_2 < d ∧ Ctr l D d_2 yX9_gain cX9_gain 4 (some .int) [.ref (D.2.2 9 r0), .int x1, .int x6, .int ((x6 * (5 : Int32)) + x5)] μ (pI q_3) ∧ ∀ (v_7 : Int32) (μ_6 : gMem), q_3 v_7 μ_6 → ∃ (d_9 : Nat) (q_10 : Int32 → gMem → Prop), d_9 < d ∧ Ctr l D d_9 yX9_gain cX9_gain 4 (some .int) [.ref (D.2.2 9 r0), .int x1, .int x4, .int x3] μ_6 (pI q_10) ∧ ∀ (v_14 : Int32) (μ_13 : gMem), q_10 v_14 μ_13 → ((v_14 < v_7) → q (0 : Int32) μ_13) ∧ ((¬ v_14 < v_7) → ∃ (d_17 : Nat) (q_18 : Int32 → gMem → Prop), d_17 < d ∧ Ctr l D d_17 yX9_gain cX9_gain 4 (some .int) [.ref (D.2.2 9 r0), .int x2, .int x6, .int ((x4 * (5 : Int32)) + x6)] μ_13 (pI q_18) ∧ ∀ (v_22 : Int32) (μ_21 : gMem), q_18 v_22 μ_21 → ∃ (d_24 : Nat) (q_25 : Int32 → gMem → Prop), d_24 < d ∧ Ctr l D d_24 yX9_gain cX9_gain 4 (some .int) [.ref (D.2.2 9 r0), .int x2, .int x5, .int x3] μ_21 (pI q_25) ∧ ∀ (v_29 : Int32) (μ_28 : gMem), q_25 v_29 μ_28 → ((v_22 ≤ v_29) → ∀ x6_32 : Int32, x6_32 = x6 + (1 : Int32) → pt_X9_isRest_1 l D d q Γ r0 x1 x2 x3 x4 x5 x6_32 μ_28) ∧ ((¬ v_22 ≤ v_29) → q (0 : Int32) μ_28)))) : pt_X9_isRest_1 l D d q Γ r0 x1 x2 x3 x4 x5 x6 μ := by
  unfold pt_X9_isRest_1
  refine g_iload dX9_isRest_13 rfl ?_
  refine g_iconst (5 : Int32) dX9_isRest_15 rfl ?_
  refine g_icmp_ge (tgt := 77) dX9_isRest_16 (by decide) (fun c_1 => ?_) (fun c_1 => ?_)
  · have h := h.1 c_1
    refine g_iconst (1 : Int32) dX9_isRest_77 rfl ?_
    exact g_iret dX9_isRest_78 rfl rfl ⟨_, rfl, h⟩
  · have h := h.2 c_1
    refine g_aload_n dX9_isRest_19 rfl ?_
    refine g_iload_n dX9_isRest_20 rfl ?_
    refine g_iload dX9_isRest_21 rfl ?_
    refine g_iload dX9_isRest_23 rfl ?_
    refine g_iconst (5 : Int32) dX9_isRest_25 rfl ?_
    refine g_imul dX9_isRest_26 ?_
    refine g_iload dX9_isRest_27 rfl ?_
    refine g_iadd dX9_isRest_29 ?_
    obtain ⟨d_2, q_3, hd_4, hc_5, h⟩ := h
    refine g_cV ca_X9_363 ob_9 hc_5 hd_4 (by decide) hr0 rfl rfl (by first | exact Nat.le_of_ble_eq_true rfl | decide) dX9_isRest_30 (kI (fun v_7 μ_6 hq_8 => ?_))
    have h := h v_7 μ_6 hq_8
    refine g_aload_n dX9_isRest_33 rfl ?_
    refine g_iload_n dX9_isRest_34 rfl ?_
    refine g_iload dX9_isRest_35 rfl ?_
    refine g_iload_n dX9_isRest_37 rfl ?_
    obtain ⟨d_9, q_10, hd_11, hc_12, h⟩ := h
    refine g_cV ca_X9_363 ob_9 hc_12 hd_11 (by decide) hr0 rfl rfl (by first | exact Nat.le_of_ble_eq_true rfl | decide) dX9_isRest_38 (kI (fun v_14 μ_13 hq_15 => ?_))
    have h := h v_14 μ_13 hq_15
    refine g_icmp_gt (tgt := 69) dX9_isRest_41 (by decide) (fun c_16 => ?_) (fun c_16 => ?_)
    · have h := h.1 c_16
      refine g_iconst (0 : Int32) dX9_isRest_69 rfl ?_
      exact g_iret dX9_isRest_70 rfl rfl ⟨_, rfl, h⟩
    · have h := h.2 c_16
      refine g_aload_n dX9_isRest_44 rfl ?_
      refine g_iload_n dX9_isRest_45 rfl ?_
      refine g_iload dX9_isRest_46 rfl ?_
      refine g_iload dX9_isRest_48 rfl ?_
      refine g_iconst (5 : Int32) dX9_isRest_50 rfl ?_
      refine g_imul dX9_isRest_51 ?_
      refine g_iload dX9_isRest_52 rfl ?_
      refine g_iadd dX9_isRest_54 ?_
      obtain ⟨d_17, q_18, hd_19, hc_20, h⟩ := h
      refine g_cV ca_X9_363 ob_9 hc_20 hd_19 (by decide) hr0 rfl rfl (by first | exact Nat.le_of_ble_eq_true rfl | decide) dX9_isRest_55 (kI (fun v_22 μ_21 hq_23 => ?_))
      have h := h v_22 μ_21 hq_23
      refine g_aload_n dX9_isRest_58 rfl ?_
      refine g_iload_n dX9_isRest_59 rfl ?_
      refine g_iload dX9_isRest_60 rfl ?_
      refine g_iload_n dX9_isRest_62 rfl ?_
      obtain ⟨d_24, q_25, hd_26, hc_27, h⟩ := h
      refine g_cV ca_X9_363 ob_9 hc_27 hd_26 (by decide) hr0 rfl rfl (by first | exact Nat.le_of_ble_eq_true rfl | decide) dX9_isRest_63 (kI (fun v_29 μ_28 hq_30 => ?_))
      have h := h v_29 μ_28 hq_30
      refine g_icmp_le (tgt := 71) dX9_isRest_66 (by decide) (fun c_31 => ?_) (fun c_31 => ?_)
      · have h := h.1 c_31
        refine g_iinc dX9_isRest_71 rfl (by decide) (fun x6_32 ex6_32 => g_sub (lv' := [(0, .ref (D.2.2 9 r0)), (1, .int x1), (2, .int x2), (3, .int x3), (4, .int x4), (5, .int x5), (6, .int x6_32)]) [1, 2, 3, 4, 5, 6, 0] rfl ?_)
        have h := h x6_32 ex6_32
        refine g_goto (tgt := 13) dX9_isRest_74 (by decide) ?_
        exact g_sub [0, 1, 2, 3, 4, 5, 6] rfl h
      · have h := h.2 c_31
        refine g_iconst (0 : Int32) dX9_isRest_69 rfl ?_
        exact g_iret dX9_isRest_70 rfl rfl ⟨_, rfl, h⟩
theorem en_X9_isRest {l : Launch} {D : gD} {d : Nat} {q : Int32 → gMem → Prop} {r0 : Nat} {x1 : Int32} {x2 : Int32} {x3 : Int32} {μ : gMem} (h : ∀ Γ : gC, pt_X9_isRest_0 l D d q Γ r0 x1 x2 x3 μ) : Ctr l D d yX9_isRest cX9_isRest 7 (some .boolean) [.ref (D.2.2 9 r0), .int x1, .int x2, .int x3] μ (pI q) :=
  Ctr_of rfl (by decide) (Nat.le_of_ble_eq_true rfl) (fun Γ => g_sub [0, 1, 2, 3] rfl (h Γ))
def pt_X9_agreesWithNotes_0 (l : Launch) (D : gD) (d : Nat) (q : Int32 → gMem → Prop) (Γ : gC) (r0 : Nat) (x1 : Int32) (x2 : Int32) (x3 : Int32) (μ : gMem) : Prop := G l D RX9 cX9_agreesWithNotes 6 (some .boolean) d (pI q) Γ 0 [(0, .ref (D.2.2 9 r0)), (1, .int x1), (2, .int x2), (3, .int x3)] [] μ
def pt_X9_agreesWithNotes_1 (l : Launch) (D : gD) (d : Nat) (q : Int32 → gMem → Prop) (Γ : gC) (r0 : Nat) (x4 : Int32) (x5 : Int32) (μ : gMem) : Prop := G l D RX9 cX9_agreesWithNotes 6 (some .boolean) d (pI q) Γ 38 [(0, .ref (D.2.2 9 r0)), (4, .int x4), (5, .int x5)] [] μ
set_option maxRecDepth 20000 in
set_option maxHeartbeats 4000000 in
theorem bl_X9_agreesWithNotes_0 {l : Launch} {D : gD} {d : Nat} {q : Int32 → gMem → Prop} {Γ : gC} {r0 : Nat} {x1 : Int32} {x2 : Int32} {x3 : Int32} {μ : gMem} (hr0 : r0 < 1) (h : (μ.2.2 0 < 2) ∧ (∃ (d_2 : Nat) (q_3 : gMem → Prop), d_2 < d ∧ Ctr l D d_2 yX8_start cX8_start 3 none [.ref (D.2.2 8 2), .ref (D.2.2 7 (μ.2.2 0))] μ (pV q_3) ∧ ∀ (μ_6 : gMem), q_3 μ_6 → ∃ j_9 : Nat, j_9 < 5 ∧ x1 = nI j_9 ∧ (∃ j_11 : Nat, j_11 < 6 ∧ x2 = nI j_11 ∧ (∀ μ_12 : gMem, μ_12 = gsI μ_6 331 (5 * 2 + j_9) j_11 x3 → ∃ (d_13 : Nat) (q_14 : Int32 → gMem → Prop), d_13 < d ∧ Ctr l D d_13 yX3_lastDay cX3_lastDay 3 (some .int) [.ref (D.2.2 3 0)] μ_12 (pI q_14) ∧ ∀ (v_18 : Int32) (μ_17 : gMem), q_14 v_18 μ_17 → ∀ x4_20 : Int32, x4_20 = v_18 → ∀ x5_21 : Int32, x5_21 = (1 : Int32) → pt_X9_agreesWithNotes_1 l D d q Γ r0 x4_20 x5_21 μ_17)))) : pt_X9_agreesWithNotes_0 l D d q Γ r0 x1 x2 x3 μ := by
  unfold pt_X9_agreesWithNotes_0
  refine g_aload_n dX9_agreesWithNotes_0 rfl ?_
  refine g_gfR fl_9_45 rfl hr0 dX9_agreesWithNotes_1 ?_
  refine g_aload_n dX9_agreesWithNotes_4 rfl ?_
  obtain ⟨hR_1, h⟩ := h
  refine g_gfR fl_9_28 rfl hr0 dX9_agreesWithNotes_5 ?_
  obtain ⟨d_2, q_3, hd_4, hc_5, h⟩ := h
  refine g_cV ca_X9_89 ob_8 hc_5 hd_4 (by decide) (by decide) rfl rfl (by first | exact Nat.le_of_ble_eq_true rfl | decide) dX9_agreesWithNotes_8 (kV (fun μ_6 hq_8 => ?_))
  have h := h μ_6 hq_8
  refine g_aload_n dX9_agreesWithNotes_11 rfl ?_
  refine g_gfR fl_9_45 rfl hr0 dX9_agreesWithNotes_12 ?_
  refine g_gfR fl_9_132 rfl (by decide) dX9_agreesWithNotes_15 ?_
  refine g_iload_n dX9_agreesWithNotes_18 rfl ?_
  obtain ⟨j_9, hj_9, ej_9, h⟩ := h
  refine g_aald j_9 (by decide) hj_9 ej_9 dX9_agreesWithNotes_19 ?_
  have hp_10 : 5 * 2 + j_9 < 15 := by have : 2 < 3 := (by decide); omega
  refine g_gfR fl_9_191 rfl hp_10 dX9_agreesWithNotes_20 ?_
  refine g_iload_n dX9_agreesWithNotes_23 rfl ?_
  refine g_iload_n dX9_agreesWithNotes_24 rfl ?_
  obtain ⟨j_11, hj_11, ej_11, h⟩ := h
  refine g_iast j_11 hp_10 rfl hj_11 (by decide) ej_11 dX9_agreesWithNotes_25 ?_
  obtain ⟨μ_12, eμ_12⟩ : ∃ z : gMem, z = gsI μ_6 331 (5 * 2 + j_9) j_11 x3 := ⟨_, rfl⟩
  have h := h μ_12 eμ_12
  refine g_mem eμ_12.symm ?_
  refine g_aload_n dX9_agreesWithNotes_26 rfl ?_
  refine g_gfR fl_9_51 rfl hr0 dX9_agreesWithNotes_27 ?_
  obtain ⟨d_13, q_14, hd_15, hc_16, h⟩ := h
  refine g_cV ca_X9_367 ob_3 hc_16 hd_15 (by decide) (by decide) rfl rfl (by first | exact Nat.le_of_ble_eq_true rfl | decide) dX9_agreesWithNotes_30 (kI (fun v_18 μ_17 hq_19 => ?_))
  have h := h v_18 μ_17 hq_19
  refine g_istore dX9_agreesWithNotes_33 (by decide) (fun x4_20 ex4_20 => g_sub (lv' := [(0, .ref (D.2.2 9 r0)), (4, .int x4_20)]) [1, 0] rfl ?_)
  have h := h x4_20 ex4_20
  refine g_iconst (1 : Int32) dX9_agreesWithNotes_35 rfl ?_
  refine g_istore dX9_agreesWithNotes_36 (by decide) (fun x5_21 ex5_21 => g_sub (lv' := [(0, .ref (D.2.2 9 r0)), (4, .int x4_20), (5, .int x5_21)]) [1, 2, 0] rfl ?_)
  have h := h x5_21 ex5_21
  exact g_sub [0, 1, 2] rfl h
set_option maxRecDepth 20000 in
set_option maxHeartbeats 4000000 in
theorem bl_X9_agreesWithNotes_1 {l : Launch} {D : gD} {d : Nat} {q : Int32 → gMem → Prop} {Γ : gC} {r0 : Nat} {x4 : Int32} {x5 : Int32} {μ : gMem} (hr0 : r0 < 1) (h : ((x4 < x5) → q (1 : Int32) μ) ∧ ((¬ x4 < x5) → ∃ (d_2 : Nat) (q_3 : gMem → Prop), d_2 < d ∧ Ctr l D d_2 yX9_passAsItGoes cX9_passAsItGoes 4 none [.ref (D.2.2 9 r0), .int (1 : Int32)] μ (pV q_3) ∧ ∀ (μ_6 : gMem), q_3 μ_6 → ∃ (d_9 : Nat) (q_10 : Int32 → gMem → Prop), d_9 < d ∧ Ctr l D d_9 yX3_agree cX3_agree 4 (some .boolean) [.ref (D.2.2 3 0), .int x5, .ref (D.2.2 8 2)] μ_6 (pI q_10) ∧ ∀ (v_14 : Int32) (μ_13 : gMem), q_10 v_14 μ_13 → ((¬ v_14 = 0) → ∀ x5_17 : Int32, x5_17 = x5 + (1 : Int32) → pt_X9_agreesWithNotes_1 l D d q Γ r0 x4 x5_17 μ_13) ∧ ((v_14 = 0) → q (0 : Int32) μ_13))) : pt_X9_agreesWithNotes_1 l D d q Γ r0 x4 x5 μ := by
  unfold pt_X9_agreesWithNotes_1
  refine g_iload dX9_agreesWithNotes_38 rfl ?_
  refine g_iload dX9_agreesWithNotes_40 rfl ?_
  refine g_icmp_gt (tgt := 74) dX9_agreesWithNotes_42 (by decide) (fun c_1 => ?_) (fun c_1 => ?_)
  · have h := h.1 c_1
    refine g_iconst (1 : Int32) dX9_agreesWithNotes_74 rfl ?_
    exact g_iret dX9_agreesWithNotes_75 rfl rfl ⟨_, rfl, h⟩
  · have h := h.2 c_1
    refine g_aload_n dX9_agreesWithNotes_45 rfl ?_
    refine g_iconst (1 : Int32) dX9_agreesWithNotes_46 rfl ?_
    obtain ⟨d_2, q_3, hd_4, hc_5, h⟩ := h
    refine g_cV ca_X9_247 ob_9 hc_5 hd_4 (by decide) hr0 rfl rfl (by first | exact Nat.le_of_ble_eq_true rfl | decide) dX9_agreesWithNotes_47 (kV (fun μ_6 hq_8 => ?_))
    have h := h μ_6 hq_8
    refine g_aload_n dX9_agreesWithNotes_50 rfl ?_
    refine g_gfR fl_9_51 rfl hr0 dX9_agreesWithNotes_51 ?_
    refine g_iload dX9_agreesWithNotes_54 rfl ?_
    refine g_aload_n dX9_agreesWithNotes_56 rfl ?_
    refine g_gfR fl_9_45 rfl hr0 dX9_agreesWithNotes_57 ?_
    obtain ⟨d_9, q_10, hd_11, hc_12, h⟩ := h
    refine g_cV ca_X9_370 ob_3 hc_12 hd_11 (by decide) (by decide) rfl rfl (by first | exact Nat.le_of_ble_eq_true rfl | decide) dX9_agreesWithNotes_60 (kI (fun v_14 μ_13 hq_15 => ?_))
    have h := h v_14 μ_13 hq_15
    refine g_if_ne (tgt := 68) dX9_agreesWithNotes_63 (by decide) (fun c_16 => ?_) (fun c_16 => ?_)
    · have h := h.1 c_16
      refine g_iinc dX9_agreesWithNotes_68 rfl (by decide) (fun x5_17 ex5_17 => g_sub (lv' := [(0, .ref (D.2.2 9 r0)), (4, .int x4), (5, .int x5_17)]) [1, 2, 0] rfl ?_)
      have h := h x5_17 ex5_17
      refine g_goto (tgt := 38) dX9_agreesWithNotes_71 (by decide) ?_
      exact g_sub [0, 1, 2] rfl h
    · have h := h.2 c_16
      refine g_iconst (0 : Int32) dX9_agreesWithNotes_66 rfl ?_
      exact g_iret dX9_agreesWithNotes_67 rfl rfl ⟨_, rfl, h⟩
theorem en_X9_agreesWithNotes {l : Launch} {D : gD} {d : Nat} {q : Int32 → gMem → Prop} {r0 : Nat} {x1 : Int32} {x2 : Int32} {x3 : Int32} {μ : gMem} (h : ∀ Γ : gC, pt_X9_agreesWithNotes_0 l D d q Γ r0 x1 x2 x3 μ) : Ctr l D d yX9_agreesWithNotes cX9_agreesWithNotes 6 (some .boolean) [.ref (D.2.2 9 r0), .int x1, .int x2, .int x3] μ (pI q) :=
  Ctr_of rfl (by decide) (Nat.le_of_ble_eq_true rfl) (fun Γ => g_sub [0, 1, 2, 3] rfl (h Γ))
def pt_X9_findFewest_0 (l : Launch) (D : gD) (d : Nat) (q : Int32 → gMem → Prop) (Γ : gC) (r0 : Nat) (r1 : Nat) (μ : gMem) : Prop := G l D RX9 cX9_findFewest 9 (some .boolean) d (pI q) Γ 0 [(0, .ref (D.2.2 9 r0)), (1, .ref (D.2.2 4 r1))] [] μ
def pt_X9_findFewest_1 (l : Launch) (D : gD) (d : Nat) (q : Int32 → gMem → Prop) (Γ : gC) (r0 : Nat) (r1 : Nat) (x2 : Int32) (x3 : Int32) (x4 : Int32) (μ : gMem) : Prop := G l D RX9 cX9_findFewest 9 (some .boolean) d (pI q) Γ 17 [(0, .ref (D.2.2 9 r0)), (1, .ref (D.2.2 4 r1)), (2, .int x2), (3, .int x3), (4, .int x4)] [] μ
def pt_X9_findFewest_2 (l : Launch) (D : gD) (d : Nat) (q : Int32 → gMem → Prop) (Γ : gC) (r0 : Nat) (x2 : Int32) (x3 : Int32) (x4 : Int32) (x5 : Int32) (x6 : Int32) (x7 : Int32) (μ : gMem) : Prop := G l D RX9 cX9_findFewest 9 (some .boolean) d (pI q) Γ 72 [(0, .ref (D.2.2 9 r0)), (2, .int x2), (3, .int x3), (4, .int x4), (5, .int x5), (6, .int x6), (7, .int x7)] [] μ
def pt_X9_findFewest_3 (l : Launch) (D : gD) (d : Nat) (q : Int32 → gMem → Prop) (Γ : gC) (r0 : Nat) (x2 : Int32) (x3 : Int32) (x4 : Int32) (x5 : Int32) (x6 : Int32) (x7 : Int32) (x8 : Int32) (μ : gMem) : Prop := G l D RX9 cX9_findFewest 9 (some .boolean) d (pI q) Γ 106 [(0, .ref (D.2.2 9 r0)), (2, .int x2), (3, .int x3), (4, .int x4), (5, .int x5), (6, .int x6), (7, .int x7), (8, .int x8)] [] μ
def pt_X9_findFewest_4 (l : Launch) (D : gD) (d : Nat) (q : Int32 → gMem → Prop) (Γ : gC) (r0 : Nat) (x2 : Int32) (x3 : Int32) (x4 : Int32) (x5 : Int32) (x6 : Int32) (x7 : Int32) (μ : gMem) : Prop := G l D RX9 cX9_findFewest 9 (some .boolean) d (pI q) Γ 132 [(0, .ref (D.2.2 9 r0)), (2, .int x2), (3, .int x3), (4, .int x4), (5, .int x5), (6, .int x6), (7, .int x7)] [] μ
def pt_X9_findFewest_5 (l : Launch) (D : gD) (d : Nat) (q : Int32 → gMem → Prop) (Γ : gC) (r0 : Nat) (x6 : Int32) (x7 : Int32) (x8 : Int32) (μ : gMem) : Prop := G l D RX9 cX9_findFewest 9 (some .boolean) d (pI q) Γ 155 [(0, .ref (D.2.2 9 r0)), (6, .int x6), (7, .int x7), (8, .int x8)] [] μ
set_option maxRecDepth 20000 in
set_option maxHeartbeats 4000000 in
theorem bl_X9_findFewest_0 {l : Launch} {D : gD} {d : Nat} {q : Int32 → gMem → Prop} {Γ : gC} {r0 : Nat} {r1 : Nat} {μ : gMem} (hr0 : r0 < 1) (hr1 : r1 < 15) (h : ∀ x2_1 : Int32, x2_1 = (1 : Int32) → (μ.2.2 0 < 2) ∧ ((0 < d) ∧ (∀ x3_4 : Int32, x3_4 = imin (μ.1 7 (μ.2.2 0) 5) (4 : Int32) → ∀ x4_5 : Int32, x4_5 = (0 : Int32) → pt_X9_findFewest_1 l D d q Γ r0 r1 x2_1 x3_4 x4_5 μ))) : pt_X9_findFewest_0 l D d q Γ r0 r1 μ := by
  unfold pt_X9_findFewest_0
  refine g_iconst (1 : Int32) dX9_findFewest_0 rfl ?_
  refine g_istore_n dX9_findFewest_1 (by decide) (fun x2_1 ex2_1 => g_sub (lv' := [(0, .ref (D.2.2 9 r0)), (1, .ref (D.2.2 4 r1)), (2, .int x2_1)]) [1, 2, 0] rfl ?_)
  have h := h x2_1 ex2_1
  refine g_aload_n dX9_findFewest_2 rfl ?_
  obtain ⟨hR_2, h⟩ := h
  refine g_gfR fl_9_28 rfl hr0 dX9_findFewest_3 ?_
  refine g_gfI fi_9_118 hR_2 dX9_findFewest_6 ?_
  refine g_iconst (4 : Int32) dX9_findFewest_9 rfl ?_
  obtain ⟨hd_3, h⟩ := h
  refine g_mmin hd_3 mk_X9_374 (by first | exact Nat.le_of_ble_eq_true rfl | decide) dX9_findFewest_10 ?_
  refine g_istore_n dX9_findFewest_13 (by decide) (fun x3_4 ex3_4 => g_sub (lv' := [(0, .ref (D.2.2 9 r0)), (1, .ref (D.2.2 4 r1)), (2, .int x2_1), (3, .int x3_4)]) [1, 2, 3, 0] rfl ?_)
  have h := h x3_4 ex3_4
  refine g_iconst (0 : Int32) dX9_findFewest_14 rfl ?_
  refine g_istore dX9_findFewest_15 (by decide) (fun x4_5 ex4_5 => g_sub (lv' := [(0, .ref (D.2.2 9 r0)), (1, .ref (D.2.2 4 r1)), (2, .int x2_1), (3, .int x3_4), (4, .int x4_5)]) [1, 2, 3, 4, 0] rfl ?_)
  have h := h x4_5 ex4_5
  exact g_sub [0, 1, 2, 3, 4] rfl h
set_option maxRecDepth 20000 in
set_option maxHeartbeats 4000000 in
theorem bl_X9_findFewest_1 {l : Launch} {D : gD} {d : Nat} {q : Int32 → gMem → Prop} {Γ : gC} {r0 : Nat} {r1 : Nat} {x2 : Int32} {x3 : Int32} {x4 : Int32} {μ : gMem} (hr0 : r0 < 1) (hr1 : r1 < 15) (h : ((x3 ≤ x4) → (μ.2.2 0 < 2) ∧ ((μ.2.2 0 < 2) ∧ (∃ (d_4 : Nat) (q_5 : Int32 → gMem → Prop), d_4 < d ∧ Ctr l D d_4 yX7_inPlan cX7_inPlan 5 (some .int) [.ref (D.2.2 7 (μ.2.2 0)), .ref (D.2.2 520 (μ.2.2 0)), .ref (D.2.2 331 r1)] μ (pI q_5) ∧ ∀ (v_9 : Int32) (μ_8 : gMem), q_5 v_9 μ_8 → ∀ x4_11 : Int32, x4_11 = ((μ.1 4 r1 0) - (μ.1 4 r1 1)) - v_9 → ∀ x5_12 : Int32, x5_12 = (-1 : Int32) → ∀ x6_13 : Int32, x6_13 = (0 : Int32) → ∀ x7_14 : Int32, x7_14 = (0 : Int32) → pt_X9_findFewest_2 l D d q Γ r0 x2 x3 x4_11 x5_12 x6_13 x7_14 μ_8))) ∧ ((¬ x3 ≤ x4) → ∀ x2_15 : Int32, x2_15 = x2 * (5 : Int32) → ∀ x4_16 : Int32, x4_16 = x4 + (1 : Int32) → pt_X9_findFewest_1 l D d q Γ r0 r1 x2_15 x3 x4_16 μ)) : pt_X9_findFewest_1 l D d q Γ r0 r1 x2 x3 x4 μ := by
  unfold pt_X9_findFewest_1
  refine g_iload dX9_findFewest_17 rfl ?_
  refine g_iload_n dX9_findFewest_19 rfl ?_
  refine g_icmp_ge (tgt := 33) dX9_findFewest_20 (by decide) (fun c_1 => ?_) (fun c_1 => ?_)
  · have h := h.1 c_1
    refine g_aload_n dX9_findFewest_33 rfl ?_
    refine g_gfI fi_9_136 hr1 dX9_findFewest_34 ?_
    refine g_aload_n dX9_findFewest_37 rfl ?_
    refine g_gfI fi_9_141 hr1 dX9_findFewest_38 ?_
    refine g_isub dX9_findFewest_41 ?_
    refine g_aload_n dX9_findFewest_42 rfl ?_
    obtain ⟨hR_2, h⟩ := h
    refine g_gfR fl_9_28 rfl hr0 dX9_findFewest_43 ?_
    refine g_aload_n dX9_findFewest_46 rfl ?_
    obtain ⟨hR_3, h⟩ := h
    refine g_gfR fl_9_28 rfl hr0 dX9_findFewest_47 ?_
    refine g_gfR fl_9_185 rfl hR_3 dX9_findFewest_50 ?_
    refine g_aload_n dX9_findFewest_53 rfl ?_
    refine g_gfR fl_9_191 rfl hr1 dX9_findFewest_54 ?_
    obtain ⟨d_4, q_5, hd_6, hc_7, h⟩ := h
    refine g_cV ca_X9_377 ob_7 hc_7 hd_6 (by decide) hR_2 rfl rfl (by first | exact Nat.le_of_ble_eq_true rfl | decide) dX9_findFewest_57 (kI (fun v_9 μ_8 hq_10 => ?_))
    have h := h v_9 μ_8 hq_10
    refine g_isub dX9_findFewest_60 ?_
    refine g_istore dX9_findFewest_61 (by decide) (fun x4_11 ex4_11 => g_sub (lv' := [(0, .ref (D.2.2 9 r0)), (2, .int x2), (3, .int x3), (4, .int x4_11)]) [1, 3, 4, 0] rfl ?_)
    have h := h x4_11 ex4_11
    refine g_iconst (-1 : Int32) dX9_findFewest_63 rfl ?_
    refine g_istore dX9_findFewest_64 (by decide) (fun x5_12 ex5_12 => g_sub (lv' := [(0, .ref (D.2.2 9 r0)), (2, .int x2), (3, .int x3), (4, .int x4_11), (5, .int x5_12)]) [1, 2, 3, 4, 0] rfl ?_)
    have h := h x5_12 ex5_12
    refine g_iconst (0 : Int32) dX9_findFewest_66 rfl ?_
    refine g_istore dX9_findFewest_67 (by decide) (fun x6_13 ex6_13 => g_sub (lv' := [(0, .ref (D.2.2 9 r0)), (2, .int x2), (3, .int x3), (4, .int x4_11), (5, .int x5_12), (6, .int x6_13)]) [1, 2, 3, 4, 5, 0] rfl ?_)
    have h := h x6_13 ex6_13
    refine g_iconst (0 : Int32) dX9_findFewest_69 rfl ?_
    refine g_istore dX9_findFewest_70 (by decide) (fun x7_14 ex7_14 => g_sub (lv' := [(0, .ref (D.2.2 9 r0)), (2, .int x2), (3, .int x3), (4, .int x4_11), (5, .int x5_12), (6, .int x6_13), (7, .int x7_14)]) [1, 2, 3, 4, 5, 6, 0] rfl ?_)
    have h := h x7_14 ex7_14
    exact g_sub [0, 1, 2, 3, 4, 5, 6] rfl h
  · have h := h.2 c_1
    refine g_iload_n dX9_findFewest_23 rfl ?_
    refine g_iconst (5 : Int32) dX9_findFewest_24 rfl ?_
    refine g_imul dX9_findFewest_25 ?_
    refine g_istore_n dX9_findFewest_26 (by decide) (fun x2_15 ex2_15 => g_sub (lv' := [(0, .ref (D.2.2 9 r0)), (1, .ref (D.2.2 4 r1)), (2, .int x2_15), (3, .int x3), (4, .int x4)]) [1, 2, 0, 3, 4] rfl ?_)
    have h := h x2_15 ex2_15
    refine g_iinc dX9_findFewest_27 rfl (by decide) (fun x4_16 ex4_16 => g_sub (lv' := [(0, .ref (D.2.2 9 r0)), (1, .ref (D.2.2 4 r1)), (2, .int x2_15), (3, .int x3), (4, .int x4_16)]) [1, 2, 3, 4, 0] rfl ?_)
    have h := h x4_16 ex4_16
    refine g_goto (tgt := 17) dX9_findFewest_30 (by decide) ?_
    exact g_sub [0, 1, 2, 3, 4] rfl h
set_option maxRecDepth 20000 in
set_option maxHeartbeats 4000000 in
theorem bl_X9_findFewest_2 {l : Launch} {D : gD} {d : Nat} {q : Int32 → gMem → Prop} {Γ : gC} {r0 : Nat} {x2 : Int32} {x3 : Int32} {x4 : Int32} {x5 : Int32} {x6 : Int32} {x7 : Int32} {μ : gMem} (hr0 : r0 < 1) (h : ((x2 ≤ x7) → ((¬ x5 = (-1 : Int32)) → ∀ x7_3 : Int32, x7_3 = x5 → ∀ x8_4 : Int32, x8_4 = x3 - (1 : Int32) → pt_X9_findFewest_5 l D d q Γ r0 x6 x7_3 x8_4 μ) ∧ ((x5 = (-1 : Int32)) → q (0 : Int32) μ)) ∧ ((¬ x2 ≤ x7) → (μ.2.2 0 < 2) ∧ (∃ (d_6 : Nat) (q_7 : Int32 → gMem → Prop), d_6 < d ∧ Ctr l D d_6 yX9_amount cX9_amount 6 (some .int) [.int x7, .int x3, .ref (D.2.2 521 (μ.2.2 0))] μ (pI q_7) ∧ ∀ (v_11 : Int32) (μ_10 : gMem), q_7 v_11 μ_10 → ∀ x8_13 : Int32, x8_13 = v_11 → ((x5 = (-1 : Int32)) → pt_X9_findFewest_3 l D d q Γ r0 x2 x3 x4 x5 x6 x7 x8_13 μ_10) ∧ ((¬ x5 = (-1 : Int32)) → ((x6 ≤ x8_13) → pt_X9_findFewest_4 l D d q Γ r0 x2 x3 x4 x5 x6 x7 μ_10) ∧ ((¬ x6 ≤ x8_13) → pt_X9_findFewest_3 l D d q Γ r0 x2 x3 x4 x5 x6 x7 x8_13 μ_10))))) : pt_X9_findFewest_2 l D d q Γ r0 x2 x3 x4 x5 x6 x7 μ := by
  unfold pt_X9_findFewest_2
  refine g_iload dX9_findFewest_72 rfl ?_
  refine g_iload_n dX9_findFewest_74 rfl ?_
  refine g_icmp_ge (tgt := 138) dX9_findFewest_75 (by decide) (fun c_1 => ?_) (fun c_1 => ?_)
  · have h := h.1 c_1
    refine g_iload dX9_findFewest_138 rfl ?_
    refine g_iconst (-1 : Int32) dX9_findFewest_140 rfl ?_
    refine g_icmp_ne (tgt := 146) dX9_findFewest_141 (by decide) (fun c_2 => ?_) (fun c_2 => ?_)
    · have h := h.1 c_2
      refine g_iload dX9_findFewest_146 rfl ?_
      refine g_istore dX9_findFewest_148 (by decide) (fun x7_3 ex7_3 => g_sub (lv' := [(0, .ref (D.2.2 9 r0)), (3, .int x3), (6, .int x6), (7, .int x7_3)]) [1, 3, 6, 0] rfl ?_)
      have h := h x7_3 ex7_3
      refine g_iload_n dX9_findFewest_150 rfl ?_
      refine g_iconst (1 : Int32) dX9_findFewest_151 rfl ?_
      refine g_isub dX9_findFewest_152 ?_
      refine g_istore dX9_findFewest_153 (by decide) (fun x8_4 ex8_4 => g_sub (lv' := [(0, .ref (D.2.2 9 r0)), (6, .int x6), (7, .int x7_3), (8, .int x8_4)]) [1, 3, 4, 0] rfl ?_)
      have h := h x8_4 ex8_4
      exact g_sub [0, 1, 2, 3] rfl h
    · have h := h.2 c_2
      refine g_iconst (0 : Int32) dX9_findFewest_144 rfl ?_
      exact g_iret dX9_findFewest_145 rfl rfl ⟨_, rfl, h⟩
  · have h := h.2 c_1
    refine g_iload dX9_findFewest_78 rfl ?_
    refine g_iload_n dX9_findFewest_80 rfl ?_
    refine g_aload_n dX9_findFewest_81 rfl ?_
    obtain ⟨hR_5, h⟩ := h
    refine g_gfR fl_9_28 rfl hr0 dX9_findFewest_82 ?_
    refine g_gfR fl_9_188 rfl hR_5 dX9_findFewest_85 ?_
    obtain ⟨d_6, q_7, hd_8, hc_9, h⟩ := h
    refine g_callS ca_X9_381 hc_9 hd_8 (by decide) rfl rfl (by first | exact Nat.le_of_ble_eq_true rfl | decide) dX9_findFewest_88 (kI (fun v_11 μ_10 hq_12 => ?_))
    have h := h v_11 μ_10 hq_12
    refine g_istore dX9_findFewest_91 (by decide) (fun x8_13 ex8_13 => g_sub (lv' := [(0, .ref (D.2.2 9 r0)), (2, .int x2), (3, .int x3), (4, .int x4), (5, .int x5), (6, .int x6), (7, .int x7), (8, .int x8_13)]) [1, 2, 3, 4, 5, 6, 7, 0] rfl ?_)
    have h := h x8_13 ex8_13
    refine g_iload dX9_findFewest_93 rfl ?_
    refine g_iconst (-1 : Int32) dX9_findFewest_95 rfl ?_
    refine g_icmp_eq (tgt := 106) dX9_findFewest_96 (by decide) (fun c_14 => ?_) (fun c_14 => ?_)
    · have h := h.1 c_14
      exact g_sub [0, 1, 2, 3, 4, 5, 6, 7] rfl h
    · have h := h.2 c_14
      refine g_iload dX9_findFewest_99 rfl ?_
      refine g_iload dX9_findFewest_101 rfl ?_
      refine g_icmp_ge (tgt := 132) dX9_findFewest_103 (by decide) (fun c_15 => ?_) (fun c_15 => ?_)
      · have h := h.1 c_15
        exact g_sub [0, 1, 2, 3, 4, 5, 6] rfl h
      · have h := h.2 c_15
        exact g_sub [0, 1, 2, 3, 4, 5, 6, 7] rfl h
set_option maxRecDepth 20000 in
set_option maxHeartbeats 4000000 in
theorem bl_X9_findFewest_3 {l : Launch} {D : gD} {d : Nat} {q : Int32 → gMem → Prop} {Γ : gC} {r0 : Nat} {x2 : Int32} {x3 : Int32} {x4 : Int32} {x5 : Int32} {x6 : Int32} {x7 : Int32} {x8 : Int32} {μ : gMem} (hr0 : r0 < 1) (h : (μ.2.2 0 < 2) ∧ (∃ (d_2 : Nat) (q_3 : Int32 → gMem → Prop), d_2 < d ∧ Ctr l D d_2 yX9_amount cX9_amount 6 (some .int) [.int x7, .int x3, .ref (D.2.2 520 (μ.2.2 0))] μ (pI q_3) ∧ ∀ (v_7 : Int32) (μ_6 : gMem), q_3 v_7 μ_6 → ((v_7 < x4) → pt_X9_findFewest_4 l D d q Γ r0 x2 x3 x4 x5 x6 x7 μ_6) ∧ ((¬ v_7 < x4) → ∀ x5_10 : Int32, x5_10 = x7 → ∀ x6_11 : Int32, x6_11 = x8 → pt_X9_findFewest_4 l D d q Γ r0 x2 x3 x4 x5_10 x6_11 x7 μ_6))) : pt_X9_findFewest_3 l D d q Γ r0 x2 x3 x4 x5 x6 x7 x8 μ := by
  unfold pt_X9_findFewest_3
  refine g_iload dX9_findFewest_106 rfl ?_
  refine g_iload_n dX9_findFewest_108 rfl ?_
  refine g_aload_n dX9_findFewest_109 rfl ?_
  obtain ⟨hR_1, h⟩ := h
  refine g_gfR fl_9_28 rfl hr0 dX9_findFewest_110 ?_
  refine g_gfR fl_9_185 rfl hR_1 dX9_findFewest_113 ?_
  obtain ⟨d_2, q_3, hd_4, hc_5, h⟩ := h
  refine g_callS ca_X9_381 hc_5 hd_4 (by decide) rfl rfl (by first | exact Nat.le_of_ble_eq_true rfl | decide) dX9_findFewest_116 (kI (fun v_7 μ_6 hq_8 => ?_))
  have h := h v_7 μ_6 hq_8
  refine g_iload dX9_findFewest_119 rfl ?_
  refine g_icmp_lt (tgt := 132) dX9_findFewest_121 (by decide) (fun c_9 => ?_) (fun c_9 => ?_)
  · have h := h.1 c_9
    exact g_sub [0, 1, 2, 3, 4, 5, 6] rfl h
  · have h := h.2 c_9
    refine g_iload dX9_findFewest_124 rfl ?_
    refine g_istore dX9_findFewest_126 (by decide) (fun x5_10 ex5_10 => g_sub (lv' := [(0, .ref (D.2.2 9 r0)), (2, .int x2), (3, .int x3), (4, .int x4), (5, .int x5_10), (7, .int x7), (8, .int x8)]) [1, 2, 3, 4, 0, 6, 7] rfl ?_)
    have h := h x5_10 ex5_10
    refine g_iload dX9_findFewest_128 rfl ?_
    refine g_istore dX9_findFewest_130 (by decide) (fun x6_11 ex6_11 => g_sub (lv' := [(0, .ref (D.2.2 9 r0)), (2, .int x2), (3, .int x3), (4, .int x4), (5, .int x5_10), (6, .int x6_11), (7, .int x7)]) [1, 2, 3, 4, 5, 0, 6] rfl ?_)
    have h := h x6_11 ex6_11
    exact g_sub [0, 1, 2, 3, 4, 5, 6] rfl h
set_option maxRecDepth 20000 in
set_option maxHeartbeats 4000000 in
theorem bl_X9_findFewest_4 {l : Launch} {D : gD} {d : Nat} {q : Int32 → gMem → Prop} {Γ : gC} {r0 : Nat} {x2 : Int32} {x3 : Int32} {x4 : Int32} {x5 : Int32} {x6 : Int32} {x7 : Int32} {μ : gMem} (hr0 : r0 < 1) (h : ∀ x7_1 : Int32, x7_1 = x7 + (1 : Int32) → pt_X9_findFewest_2 l D d q Γ r0 x2 x3 x4 x5 x6 x7_1 μ) : pt_X9_findFewest_4 l D d q Γ r0 x2 x3 x4 x5 x6 x7 μ := by
  unfold pt_X9_findFewest_4
  refine g_iinc dX9_findFewest_132 rfl (by decide) (fun x7_1 ex7_1 => g_sub (lv' := [(0, .ref (D.2.2 9 r0)), (2, .int x2), (3, .int x3), (4, .int x4), (5, .int x5), (6, .int x6), (7, .int x7_1)]) [1, 2, 3, 4, 5, 6, 0] rfl ?_)
  have h := h x7_1 ex7_1
  refine g_goto (tgt := 72) dX9_findFewest_135 (by decide) ?_
  exact g_sub [0, 1, 2, 3, 4, 5, 6] rfl h
set_option maxRecDepth 20000 in
set_option maxHeartbeats 4000000 in
theorem bl_X9_findFewest_5 {l : Launch} {D : gD} {d : Nat} {q : Int32 → gMem → Prop} {Γ : gC} {r0 : Nat} {x6 : Int32} {x7 : Int32} {x8 : Int32} {μ : gMem} (hr0 : r0 < 1) (h : ((x8 < 0) → ∀ μ_3 : gMem, μ_3 = gsI μ 650 r0 4 x6 → q (1 : Int32) μ_3) ∧ ((¬ x8 < 0) → ∃ j_4 : Nat, j_4 < 5 ∧ x8 = nI j_4 ∧ (∀ μ_5 : gMem, μ_5 = gsI μ 650 r0 j_4 (x7 - x7 / (5 : Int32) * (5 : Int32)) → ∀ x7_6 : Int32, x7_6 = x7 / (5 : Int32) → ∀ x8_7 : Int32, x8_7 = x8 + (-1 : Int32) → pt_X9_findFewest_5 l D d q Γ r0 x6 x7_6 x8_7 μ_5))) : pt_X9_findFewest_5 l D d q Γ r0 x6 x7 x8 μ := by
  unfold pt_X9_findFewest_5
  refine g_iload dX9_findFewest_155 rfl ?_
  refine g_if_lt (tgt := 183) dX9_findFewest_157 (by decide) (fun c_1 => ?_) (fun c_1 => ?_)
  · have h := h.1 c_1
    refine g_aload_n dX9_findFewest_183 rfl ?_
    refine g_gfR fl_9_66 rfl hr0 dX9_findFewest_184 ?_
    refine g_iconst (4 : Int32) dX9_findFewest_187 rfl ?_
    refine g_iload dX9_findFewest_188 rfl ?_
    refine g_iast 4 hr0 rfl (by decide) (by decide) rfl dX9_findFewest_190 ?_
    obtain ⟨μ_3, eμ_3⟩ : ∃ z : gMem, z = gsI μ 650 r0 4 x6 := ⟨_, rfl⟩
    have h := h μ_3 eμ_3
    refine g_mem eμ_3.symm ?_
    refine g_iconst (1 : Int32) dX9_findFewest_191 rfl ?_
    exact g_iret dX9_findFewest_192 rfl rfl ⟨_, rfl, h⟩
  · have h := h.2 c_1
    refine g_aload_n dX9_findFewest_160 rfl ?_
    refine g_gfR fl_9_66 rfl hr0 dX9_findFewest_161 ?_
    refine g_iload dX9_findFewest_164 rfl ?_
    refine g_iload dX9_findFewest_166 rfl ?_
    refine g_iconst (5 : Int32) dX9_findFewest_168 rfl ?_
    refine g_irem dX9_findFewest_169 (by decide) ?_
    obtain ⟨j_4, hj_4, ej_4, h⟩ := h
    refine g_iast j_4 hr0 rfl hj_4 (by decide) ej_4 dX9_findFewest_170 ?_
    obtain ⟨μ_5, eμ_5⟩ : ∃ z : gMem, z = gsI μ 650 r0 j_4 (x7 - x7 / (5 : Int32) * (5 : Int32)) := ⟨_, rfl⟩
    have h := h μ_5 eμ_5
    refine g_mem eμ_5.symm ?_
    refine g_iload dX9_findFewest_171 rfl ?_
    refine g_iconst (5 : Int32) dX9_findFewest_173 rfl ?_
    refine g_idiv dX9_findFewest_174 (by decide) ?_
    refine g_istore dX9_findFewest_175 (by decide) (fun x7_6 ex7_6 => g_sub (lv' := [(0, .ref (D.2.2 9 r0)), (6, .int x6), (7, .int x7_6), (8, .int x8)]) [1, 2, 0, 3] rfl ?_)
    have h := h x7_6 ex7_6
    refine g_iinc dX9_findFewest_177 rfl (by decide) (fun x8_7 ex8_7 => g_sub (lv' := [(0, .ref (D.2.2 9 r0)), (6, .int x6), (7, .int x7_6), (8, .int x8_7)]) [1, 2, 3, 0] rfl ?_)
    have h := h x8_7 ex8_7
    refine g_goto (tgt := 155) dX9_findFewest_180 (by decide) ?_
    exact g_sub [0, 1, 2, 3] rfl h
theorem en_X9_findFewest {l : Launch} {D : gD} {d : Nat} {q : Int32 → gMem → Prop} {r0 : Nat} {r1 : Nat} {μ : gMem} (h : ∀ Γ : gC, pt_X9_findFewest_0 l D d q Γ r0 r1 μ) : Ctr l D d yX9_findFewest cX9_findFewest 9 (some .boolean) [.ref (D.2.2 9 r0), .ref (D.2.2 4 r1)] μ (pI q) :=
  Ctr_of rfl (by decide) (Nat.le_of_ble_eq_true rfl) (fun Γ => g_sub [0, 1] rfl (h Γ))
def pt_X9_amount_0 (l : Launch) (D : gD) (d : Nat) (q : Int32 → gMem → Prop) (Γ : gC) (x0 : Int32) (x1 : Int32) (k2 : Nat) (i2 : Nat) (μ : gMem) : Prop := G l D RX9 cX9_amount 6 (some .int) d (pI q) Γ 0 [(0, .int x0), (1, .int x1), (2, .ref (D.2.2 k2 i2))] [] μ
def pt_X9_amount_1 (l : Launch) (D : gD) (d : Nat) (q : Int32 → gMem → Prop) (Γ : gC) (k2 : Nat) (i2 : Nat) (x3 : Int32) (x4 : Int32) (x5 : Int32) (μ : gMem) : Prop := G l D RX9 cX9_amount 6 (some .int) d (pI q) Γ 10 [(2, .ref (D.2.2 k2 i2)), (3, .int x3), (4, .int x4), (5, .int x5)] [] μ
set_option maxRecDepth 20000 in
set_option maxHeartbeats 4000000 in
theorem bl_X9_amount_0 {l : Launch} {D : gD} {d : Nat} {q : Int32 → gMem → Prop} {Γ : gC} {x0 : Int32} {x1 : Int32} {k2 : Nat} {i2 : Nat} {μ : gMem} (hk2 : gsh k2 = (1, (gsh k2).2.1, 0)) (hi2 : i2 < gkn k2) (h : ∀ x3_1 : Int32, x3_1 = x0 → ∀ x4_2 : Int32, x4_2 = (0 : Int32) → ∀ x5_3 : Int32, x5_3 = x1 - (1 : Int32) → pt_X9_amount_1 l D d q Γ k2 i2 x3_1 x4_2 x5_3 μ) : pt_X9_amount_0 l D d q Γ x0 x1 k2 i2 μ := by
  unfold pt_X9_amount_0
  refine g_iload_n dX9_amount_0 rfl ?_
  refine g_istore_n dX9_amount_1 (by decide) (fun x3_1 ex3_1 => g_sub (lv' := [(1, .int x1), (2, .ref (D.2.2 k2 i2)), (3, .int x3_1)]) [2, 3, 0] rfl ?_)
  have h := h x3_1 ex3_1
  refine g_iconst (0 : Int32) dX9_amount_2 rfl ?_
  refine g_istore dX9_amount_3 (by decide) (fun x4_2 ex4_2 => g_sub (lv' := [(1, .int x1), (2, .ref (D.2.2 k2 i2)), (3, .int x3_1), (4, .int x4_2)]) [1, 2, 3, 0] rfl ?_)
  have h := h x4_2 ex4_2
  refine g_iload_n dX9_amount_5 rfl ?_
  refine g_iconst (1 : Int32) dX9_amount_6 rfl ?_
  refine g_isub dX9_amount_7 ?_
  refine g_istore dX9_amount_8 (by decide) (fun x5_3 ex5_3 => g_sub (lv' := [(2, .ref (D.2.2 k2 i2)), (3, .int x3_1), (4, .int x4_2), (5, .int x5_3)]) [2, 3, 4, 0] rfl ?_)
  have h := h x5_3 ex5_3
  exact g_sub [0, 1, 2, 3] rfl h
set_option maxRecDepth 20000 in
set_option maxHeartbeats 4000000 in
theorem bl_X9_amount_1 {l : Launch} {D : gD} {d : Nat} {q : Int32 → gMem → Prop} {Γ : gC} {k2 : Nat} {i2 : Nat} {x3 : Int32} {x4 : Int32} {x5 : Int32} {μ : gMem} (hk2 : gsh k2 = (1, (gsh k2).2.1, 0)) (hi2 : i2 < gkn k2) (h : ((x5 < 0) → q x4 μ) ∧ ((¬ x5 < 0) → ∃ j_2 : Nat, j_2 < (gsh k2).2.1 ∧ (gsh k2).2.1 < 2 ^ 31 ∧ x5 = nI j_2 ∧ (∀ x4_4 : Int32, x4_4 = x4 + ((x3 - x3 / (5 : Int32) * (5 : Int32)) * (μ.1 k2 i2 j_2)) → ∀ x3_5 : Int32, x3_5 = x3 / (5 : Int32) → ∀ x5_6 : Int32, x5_6 = x5 + (-1 : Int32) → pt_X9_amount_1 l D d q Γ k2 i2 x3_5 x4_4 x5_6 μ))) : pt_X9_amount_1 l D d q Γ k2 i2 x3 x4 x5 μ := by
  unfold pt_X9_amount_1
  refine g_iload dX9_amount_10 rfl ?_
  refine g_if_lt (tgt := 38) dX9_amount_12 (by decide) (fun c_1 => ?_) (fun c_1 => ?_)
  · have h := h.1 c_1
    refine g_iload dX9_amount_38 rfl ?_
    exact g_iret dX9_amount_40 rfl rfl ⟨_, rfl, h⟩
  · have h := h.2 c_1
    refine g_iload dX9_amount_15 rfl ?_
    refine g_iload_n dX9_amount_17 rfl ?_
    refine g_iconst (5 : Int32) dX9_amount_18 rfl ?_
    refine g_irem dX9_amount_19 (by decide) ?_
    refine g_aload_n dX9_amount_20 rfl ?_
    refine g_iload dX9_amount_21 rfl ?_
    obtain ⟨j_2, hj_2, hn_3, ej_2, h⟩ := h
    refine g_iald j_2 hi2 hk2 hj_2 hn_3 ej_2 dX9_amount_23 ?_
    refine g_imul dX9_amount_24 ?_
    refine g_iadd dX9_amount_25 ?_
    refine g_istore dX9_amount_26 (by decide) (fun x4_4 ex4_4 => g_sub (lv' := [(2, .ref (D.2.2 k2 i2)), (3, .int x3), (4, .int x4_4), (5, .int x5)]) [1, 2, 0, 3] rfl ?_)
    have h := h x4_4 ex4_4
    refine g_iload_n dX9_amount_28 rfl ?_
    refine g_iconst (5 : Int32) dX9_amount_29 rfl ?_
    refine g_idiv dX9_amount_30 (by decide) ?_
    refine g_istore_n dX9_amount_31 (by decide) (fun x3_5 ex3_5 => g_sub (lv' := [(2, .ref (D.2.2 k2 i2)), (3, .int x3_5), (4, .int x4_4), (5, .int x5)]) [1, 0, 2, 3] rfl ?_)
    have h := h x3_5 ex3_5
    refine g_iinc dX9_amount_32 rfl (by decide) (fun x5_6 ex5_6 => g_sub (lv' := [(2, .ref (D.2.2 k2 i2)), (3, .int x3_5), (4, .int x4_4), (5, .int x5_6)]) [1, 2, 3, 0] rfl ?_)
    have h := h x5_6 ex5_6
    refine g_goto (tgt := 10) dX9_amount_35 (by decide) ?_
    exact g_sub [0, 1, 2, 3] rfl h
theorem en_X9_amount {l : Launch} {D : gD} {d : Nat} {q : Int32 → gMem → Prop} {x0 : Int32} {x1 : Int32} {k2 : Nat} {i2 : Nat} {μ : gMem} (h : ∀ Γ : gC, pt_X9_amount_0 l D d q Γ x0 x1 k2 i2 μ) : Ctr l D d yX9_amount cX9_amount 6 (some .int) [.int x0, .int x1, .ref (D.2.2 k2 i2)] μ (pI q) :=
  Ctr_of rfl (by decide) (Nat.le_of_ble_eq_true rfl) (fun Γ => g_sub [0, 1, 2] rfl (h Γ))
