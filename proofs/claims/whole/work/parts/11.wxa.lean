def pt_X9_feed_0 (l : Launch) (D : gD) (d : Nat) (q : Int32 → gMem → Prop) (Γ : gC) (r0 : Nat) (x1 : Int32) (x2 : Int32) (x3 : Int32) (x4 : Int32) (x5 : Int32) (μ : gMem) : Prop := G l D RX9 cX9_feed 6 (some .int) d (pI q) Γ 0 [(0, .ref (D.2.2 9 r0)), (1, .int x1), (2, .int x2), (3, .int x3), (4, .int x4), (5, .int x5)] [] μ
set_option maxRecDepth 20000 in
set_option maxHeartbeats 4000000 in
theorem bl_X9_feed_0 {l : Launch} {D : gD} {d : Nat} {q : Int32 → gMem → Prop} {Γ : gC} {r0 : Nat} {x1 : Int32} {x2 : Int32} {x3 : Int32} {x4 : Int32} {x5 : Int32} {μ : gMem} (hr0 : r0 < 1) (h : ∃ (d_1 : Nat) (q_2 : Int32 → gMem → Prop), d_1 < d ∧ Ctr l D d_1 yX6_hasRoom cX6_hasRoom 1 (some .boolean) [.ref (D.2.2 6 0)] μ (pI q_2) ∧ ∀ (v_6 : Int32) (μ_5 : gMem), q_2 v_6 μ_5 → ((¬ v_6 = 0) → ∃ (d_9 : Nat) (q_10 : gMem → Prop), d_9 < d ∧ Ctr l D d_9 yX6_append cX6_append 3 none [.ref (D.2.2 6 0), .int x1] μ_5 (pV q_10) ∧ ∀ (μ_13 : gMem), q_10 μ_13 → ∃ (d_16 : Nat) (q_17 : gMem → Prop), d_16 < d ∧ Ctr l D d_16 yX6_append cX6_append 3 none [.ref (D.2.2 6 0), .int x2] μ_13 (pV q_17) ∧ ∀ (μ_20 : gMem), q_17 μ_20 → ∃ (d_23 : Nat) (q_24 : gMem → Prop), d_23 < d ∧ Ctr l D d_23 yX6_append cX6_append 3 none [.ref (D.2.2 6 0), .int x3] μ_20 (pV q_24) ∧ ∀ (μ_27 : gMem), q_24 μ_27 → ∃ (d_30 : Nat) (q_31 : gMem → Prop), d_30 < d ∧ Ctr l D d_30 yX6_append cX6_append 3 none [.ref (D.2.2 6 0), .int x4] μ_27 (pV q_31) ∧ ∀ (μ_34 : gMem), q_31 μ_34 → ∃ (d_37 : Nat) (q_38 : gMem → Prop), d_37 < d ∧ Ctr l D d_37 yX6_append cX6_append 3 none [.ref (D.2.2 6 0), .int x5] μ_34 (pV q_38) ∧ ∀ (μ_41 : gMem), q_38 μ_41 → q (μ_41.1 6 0 2) μ_41) ∧ ((v_6 = 0) → q (-1 : Int32) μ_5)) : pt_X9_feed_0 l D d q Γ r0 x1 x2 x3 x4 x5 μ := by
  unfold pt_X9_feed_0
  refine g_aload_n dX9_feed_0 rfl ?_
  refine g_gfR fl_9_10 rfl hr0 dX9_feed_1 ?_
  obtain ⟨d_1, q_2, hd_3, hc_4, h⟩ := h
  refine g_cV ca_X9_73 ob_6 hc_4 hd_3 (by decide) (by decide) rfl rfl (by first | exact Nat.le_of_ble_eq_true rfl | decide) dX9_feed_4 (kI (fun v_6 μ_5 hq_7 => ?_))
  have h := h v_6 μ_5 hq_7
  refine g_if_ne (tgt := 12) dX9_feed_7 (by decide) (fun c_8 => ?_) (fun c_8 => ?_)
  · have h := h.1 c_8
    refine g_aload_n dX9_feed_12 rfl ?_
    refine g_gfR fl_9_10 rfl hr0 dX9_feed_13 ?_
    refine g_iload_n dX9_feed_16 rfl ?_
    obtain ⟨d_9, q_10, hd_11, hc_12, h⟩ := h
    refine g_cV ca_X9_77 ob_6 hc_12 hd_11 (by decide) (by decide) rfl rfl (by first | exact Nat.le_of_ble_eq_true rfl | decide) dX9_feed_17 (kV (fun μ_13 hq_15 => ?_))
    have h := h μ_13 hq_15
    refine g_aload_n dX9_feed_20 rfl ?_
    refine g_gfR fl_9_10 rfl hr0 dX9_feed_21 ?_
    refine g_iload_n dX9_feed_24 rfl ?_
    obtain ⟨d_16, q_17, hd_18, hc_19, h⟩ := h
    refine g_cV ca_X9_77 ob_6 hc_19 hd_18 (by decide) (by decide) rfl rfl (by first | exact Nat.le_of_ble_eq_true rfl | decide) dX9_feed_25 (kV (fun μ_20 hq_22 => ?_))
    have h := h μ_20 hq_22
    refine g_aload_n dX9_feed_28 rfl ?_
    refine g_gfR fl_9_10 rfl hr0 dX9_feed_29 ?_
    refine g_iload_n dX9_feed_32 rfl ?_
    obtain ⟨d_23, q_24, hd_25, hc_26, h⟩ := h
    refine g_cV ca_X9_77 ob_6 hc_26 hd_25 (by decide) (by decide) rfl rfl (by first | exact Nat.le_of_ble_eq_true rfl | decide) dX9_feed_33 (kV (fun μ_27 hq_29 => ?_))
    have h := h μ_27 hq_29
    refine g_aload_n dX9_feed_36 rfl ?_
    refine g_gfR fl_9_10 rfl hr0 dX9_feed_37 ?_
    refine g_iload dX9_feed_40 rfl ?_
    obtain ⟨d_30, q_31, hd_32, hc_33, h⟩ := h
    refine g_cV ca_X9_77 ob_6 hc_33 hd_32 (by decide) (by decide) rfl rfl (by first | exact Nat.le_of_ble_eq_true rfl | decide) dX9_feed_42 (kV (fun μ_34 hq_36 => ?_))
    have h := h μ_34 hq_36
    refine g_aload_n dX9_feed_45 rfl ?_
    refine g_gfR fl_9_10 rfl hr0 dX9_feed_46 ?_
    refine g_iload dX9_feed_49 rfl ?_
    obtain ⟨d_37, q_38, hd_39, hc_40, h⟩ := h
    refine g_cV ca_X9_77 ob_6 hc_40 hd_39 (by decide) (by decide) rfl rfl (by first | exact Nat.le_of_ble_eq_true rfl | decide) dX9_feed_51 (kV (fun μ_41 hq_43 => ?_))
    have h := h μ_41 hq_43
    refine g_aload_n dX9_feed_54 rfl ?_
    refine g_gfR fl_9_10 rfl hr0 dX9_feed_55 ?_
    refine g_gfI fi_9_81 (by decide) dX9_feed_58 ?_
    exact g_iret dX9_feed_61 rfl rfl ⟨_, rfl, h⟩
  · have h := h.2 c_8
    refine g_iconst (-1 : Int32) dX9_feed_10 rfl ?_
    exact g_iret dX9_feed_11 rfl rfl ⟨_, rfl, h⟩
theorem en_X9_feed {l : Launch} {D : gD} {d : Nat} {q : Int32 → gMem → Prop} {r0 : Nat} {x1 : Int32} {x2 : Int32} {x3 : Int32} {x4 : Int32} {x5 : Int32} {μ : gMem} (h : ∀ Γ : gC, pt_X9_feed_0 l D d q Γ r0 x1 x2 x3 x4 x5 μ) : Ctr l D d yX9_feed cX9_feed 6 (some .int) [.ref (D.2.2 9 r0), .int x1, .int x2, .int x3, .int x4, .int x5] μ (pI q) :=
  Ctr_of rfl (by decide) (Nat.le_of_ble_eq_true rfl) (fun Γ => g_sub [0, 1, 2, 3, 4, 5] rfl (h Γ))
def pt_X9_text_0 (l : Launch) (D : gD) (d : Nat) (q : Int32 → gMem → Prop) (Γ : gC) (r0 : Nat) (x1 : Int32) (μ : gMem) : Prop := G l D RX9 cX9_text 4 (some .int) d (pI q) Γ 0 [(0, .ref (D.2.2 9 r0)), (1, .int x1)] [] μ
set_option maxRecDepth 20000 in
set_option maxHeartbeats 4000000 in
theorem bl_X9_text_0 {l : Launch} {D : gD} {d : Nat} {q : Int32 → gMem → Prop} {Γ : gC} {r0 : Nat} {x1 : Int32} {μ : gMem} (hr0 : r0 < 1) (h : ((x1 < 0) → q (-2 : Int32) μ) ∧ ((¬ x1 < 0) → ((x1 ≤ (μ.1 6 0 2)) → (μ.2.2 1 < 2) ∧ (∃ (d_4 : Nat) (q_5 : Int32 → gMem → Prop), d_4 < d ∧ Ctr l D d_4 yX5_readText cX5_readText 5 (some .int) [.ref (D.2.2 5 0), .ref (D.2.2 7 (μ.2.2 1)), .int x1] μ (pI q_5) ∧ ∀ (v_9 : Int32) (μ_8 : gMem), q_5 v_9 μ_8 → ∀ x2_11 : Int32, x2_11 = v_9 → ∀ μ_12 : gMem, μ_12 = gsI μ_8 6 0 2 (0 : Int32) → ((¬ x2_11 = (-1 : Int32)) → (μ_12.2.2 0 < 2) ∧ ((μ_12.2.2 1 < 2) ∧ (∀ μ_16 : gMem, μ_16 = gsR μ_12 0 (μ_12.2.2 1) → ∀ μ_17 : gMem, μ_17 = gsR μ_16 1 (μ_12.2.2 0) → (μ_17.2.2 0 < 2) ∧ (∃ (d_19 : Nat) (q_20 : gMem → Prop), d_19 < d ∧ Ctr l D d_19 yX8_start cX8_start 3 none [.ref (D.2.2 8 0), .ref (D.2.2 7 (μ_17.2.2 0))] μ_17 (pV q_20) ∧ ∀ (μ_23 : gMem), q_20 μ_23 → ∀ μ_26 : gMem, μ_26 = gsI μ_23 9 r0 11 (0 : Int32) → ∃ (d_27 : Nat) (q_28 : gMem → Prop), d_27 < d ∧ Ctr l D d_27 yX3_clear cX3_clear 1 none [.ref (D.2.2 3 0)] μ_26 (pV q_28) ∧ ∀ (μ_31 : gMem), q_28 μ_31 → ∀ μ_34 : gMem, μ_34 = gsI μ_31 0 0 4 (0 : Int32) → q x2_11 μ_34)))) ∧ ((x2_11 = (-1 : Int32)) → q (-1 : Int32) μ_12))) ∧ ((¬ x1 ≤ (μ.1 6 0 2)) → q (-2 : Int32) μ))) : pt_X9_text_0 l D d q Γ r0 x1 μ := by
  unfold pt_X9_text_0
  refine g_iload_n dX9_text_0 rfl ?_
  refine g_if_lt (tgt := 15) dX9_text_1 (by decide) (fun c_1 => ?_) (fun c_1 => ?_)
  · have h := h.1 c_1
    refine g_bipush (-2 : Int32) dX9_text_15 rfl ?_
    exact g_iret dX9_text_17 rfl rfl ⟨_, rfl, h⟩
  · have h := h.2 c_1
    refine g_iload_n dX9_text_4 rfl ?_
    refine g_aload_n dX9_text_5 rfl ?_
    refine g_gfR fl_9_10 rfl hr0 dX9_text_6 ?_
    refine g_gfI fi_9_81 (by decide) dX9_text_9 ?_
    refine g_icmp_le (tgt := 18) dX9_text_12 (by decide) (fun c_2 => ?_) (fun c_2 => ?_)
    · have h := h.1 c_2
      refine g_aload_n dX9_text_18 rfl ?_
      refine g_gfR fl_9_21 rfl hr0 dX9_text_19 ?_
      refine g_aload_n dX9_text_22 rfl ?_
      obtain ⟨hR_3, h⟩ := h
      refine g_gfR fl_9_32 rfl hr0 dX9_text_23 ?_
      refine g_iload_n dX9_text_26 rfl ?_
      obtain ⟨d_4, q_5, hd_6, hc_7, h⟩ := h
      refine g_cV ca_X9_85 ob_5 hc_7 hd_6 (by decide) (by decide) rfl rfl (by first | exact Nat.le_of_ble_eq_true rfl | decide) dX9_text_27 (kI (fun v_9 μ_8 hq_10 => ?_))
      have h := h v_9 μ_8 hq_10
      refine g_istore_n dX9_text_30 (by decide) (fun x2_11 ex2_11 => g_sub (lv' := [(0, .ref (D.2.2 9 r0)), (2, .int x2_11)]) [1, 0] rfl ?_)
      have h := h x2_11 ex2_11
      refine g_aload_n dX9_text_31 rfl ?_
      refine g_gfR fl_9_10 rfl hr0 dX9_text_32 ?_
      refine g_iconst (0 : Int32) dX9_text_35 rfl ?_
      refine g_pfI fi_9_81 (by decide) rfl rfl dX9_text_36 ?_
      obtain ⟨μ_12, eμ_12⟩ : ∃ z : gMem, z = gsI μ_8 6 0 2 (0 : Int32) := ⟨_, rfl⟩
      have h := h μ_12 eμ_12
      refine g_mem eμ_12.symm ?_
      refine g_iload_n dX9_text_39 rfl ?_
      refine g_iconst (-1 : Int32) dX9_text_40 rfl ?_
      refine g_icmp_ne (tgt := 46) dX9_text_41 (by decide) (fun c_13 => ?_) (fun c_13 => ?_)
      · have h := h.1 c_13
        refine g_aload_n dX9_text_46 rfl ?_
        obtain ⟨hR_14, h⟩ := h
        refine g_gfR fl_9_28 rfl hr0 dX9_text_47 ?_
        refine g_astore_n dX9_text_50 (by decide) (g_sub (lv' := [(0, .ref (D.2.2 9 r0)), (2, .int x2_11), (3, .ref (D.2.2 7 (μ_12.2.2 0)))]) [1, 2, 0] rfl ?_)
        refine g_aload_n dX9_text_51 rfl ?_
        refine g_aload_n dX9_text_52 rfl ?_
        obtain ⟨hR_15, h⟩ := h
        refine g_gfR fl_9_32 rfl hr0 dX9_text_53 ?_
        refine g_pfR (n := 0) fl_9_28 (by simp [gRf]) hr0 hR_15 dX9_text_56 ?_
        obtain ⟨μ_16, eμ_16⟩ : ∃ z : gMem, z = gsR μ_12 0 (μ_12.2.2 1) := ⟨_, rfl⟩
        have h := h μ_16 eμ_16
        refine g_mem eμ_16.symm ?_
        refine g_aload_n dX9_text_59 rfl ?_
        refine g_aload_n dX9_text_60 rfl ?_
        refine g_pfR (n := 1) fl_9_32 (by simp [gRf]) hr0 hR_14 dX9_text_61 ?_
        obtain ⟨μ_17, eμ_17⟩ : ∃ z : gMem, z = gsR μ_16 1 (μ_12.2.2 0) := ⟨_, rfl⟩
        have h := h μ_17 eμ_17
        refine g_mem eμ_17.symm ?_
        refine g_aload_n dX9_text_64 rfl ?_
        refine g_gfR fl_9_38 rfl hr0 dX9_text_65 ?_
        refine g_aload_n dX9_text_68 rfl ?_
        obtain ⟨hR_18, h⟩ := h
        refine g_gfR fl_9_28 rfl hr0 dX9_text_69 ?_
        obtain ⟨d_19, q_20, hd_21, hc_22, h⟩ := h
        refine g_cV ca_X9_89 ob_8 hc_22 hd_21 (by decide) (by decide) rfl rfl (by first | exact Nat.le_of_ble_eq_true rfl | decide) dX9_text_72 (kV (fun μ_23 hq_25 => ?_))
        have h := h μ_23 hq_25
        refine g_aload_n dX9_text_75 rfl ?_
        refine g_iconst (0 : Int32) dX9_text_76 rfl ?_
        refine g_pfI fi_9_69 hr0 rfl rfl dX9_text_77 ?_
        obtain ⟨μ_26, eμ_26⟩ : ∃ z : gMem, z = gsI μ_23 9 r0 11 (0 : Int32) := ⟨_, rfl⟩
        have h := h μ_26 eμ_26
        refine g_mem eμ_26.symm ?_
        refine g_aload_n dX9_text_80 rfl ?_
        refine g_gfR fl_9_51 rfl hr0 dX9_text_81 ?_
        obtain ⟨d_27, q_28, hd_29, hc_30, h⟩ := h
        refine g_cV ca_X9_93 ob_3 hc_30 hd_29 (by decide) (by decide) rfl rfl (by first | exact Nat.le_of_ble_eq_true rfl | decide) dX9_text_84 (kV (fun μ_31 hq_33 => ?_))
        have h := h μ_31 hq_33
        refine g_aload_n dX9_text_87 rfl ?_
        refine g_gfR fl_9_58 rfl hr0 dX9_text_88 ?_
        refine g_iconst (0 : Int32) dX9_text_91 rfl ?_
        refine g_pfI fi_9_96 (by decide) rfl rfl dX9_text_92 ?_
        obtain ⟨μ_34, eμ_34⟩ : ∃ z : gMem, z = gsI μ_31 0 0 4 (0 : Int32) := ⟨_, rfl⟩
        have h := h μ_34 eμ_34
        refine g_mem eμ_34.symm ?_
        refine g_iload_n dX9_text_95 rfl ?_
        exact g_iret dX9_text_96 rfl rfl ⟨_, rfl, h⟩
      · have h := h.2 c_13
        refine g_iconst (-1 : Int32) dX9_text_44 rfl ?_
        exact g_iret dX9_text_45 rfl rfl ⟨_, rfl, h⟩
    · have h := h.2 c_2
      refine g_bipush (-2 : Int32) dX9_text_15 rfl ?_
      exact g_iret dX9_text_17 rfl rfl ⟨_, rfl, h⟩
theorem en_X9_text {l : Launch} {D : gD} {d : Nat} {q : Int32 → gMem → Prop} {r0 : Nat} {x1 : Int32} {μ : gMem} (h : ∀ Γ : gC, pt_X9_text_0 l D d q Γ r0 x1 μ) : Ctr l D d yX9_text cX9_text 4 (some .int) [.ref (D.2.2 9 r0), .int x1] μ (pI q) :=
  Ctr_of rfl (by decide) (Nat.le_of_ble_eq_true rfl) (fun Γ => g_sub [0, 1] rfl (h Γ))
def pt_X9_fault_0 (l : Launch) (D : gD) (d : Nat) (q : Int32 → gMem → Prop) (Γ : gC) (r0 : Nat) (x1 : Int32) (μ : gMem) : Prop := G l D RX9 cX9_fault 2 (some .int) d (pI q) Γ 0 [(0, .ref (D.2.2 9 r0)), (1, .int x1)] [] μ
set_option maxRecDepth 20000 in
set_option maxHeartbeats 4000000 in
theorem bl_X9_fault_0 {l : Launch} {D : gD} {d : Nat} {q : Int32 → gMem → Prop} {Γ : gC} {r0 : Nat} {x1 : Int32} {μ : gMem} (hr0 : r0 < 1) (h : ((¬ x1 = 0) → ((¬ x1 = (1 : Int32)) → q (-1 : Int32) μ) ∧ ((x1 = (1 : Int32)) → q (μ.1 5 0 6) μ)) ∧ ((x1 = 0) → q (μ.1 5 0 5) μ)) : pt_X9_fault_0 l D d q Γ r0 x1 μ := by
  unfold pt_X9_fault_0
  refine g_iload_n dX9_fault_0 rfl ?_
  refine g_if_ne (tgt := 12) dX9_fault_1 (by decide) (fun c_1 => ?_) (fun c_1 => ?_)
  · have h := h.1 c_1
    refine g_iload_n dX9_fault_12 rfl ?_
    refine g_iconst (1 : Int32) dX9_fault_13 rfl ?_
    refine g_icmp_ne (tgt := 27) dX9_fault_14 (by decide) (fun c_2 => ?_) (fun c_2 => ?_)
    · have h := h.1 c_2
      refine g_iconst (-1 : Int32) dX9_fault_27 rfl ?_
      exact g_iret dX9_fault_28 rfl rfl ⟨_, rfl, h⟩
    · have h := h.2 c_2
      refine g_aload_n dX9_fault_17 rfl ?_
      refine g_gfR fl_9_21 rfl hr0 dX9_fault_18 ?_
      refine g_gfI fi_9_102 (by decide) dX9_fault_21 ?_
      refine g_goto (tgt := 28) dX9_fault_24 (by decide) ?_
      exact g_iret dX9_fault_28 rfl rfl ⟨_, rfl, h⟩
  · have h := h.2 c_1
    refine g_aload_n dX9_fault_4 rfl ?_
    refine g_gfR fl_9_21 rfl hr0 dX9_fault_5 ?_
    refine g_gfI fi_9_99 (by decide) dX9_fault_8 ?_
    exact g_iret dX9_fault_11 rfl rfl ⟨_, rfl, h⟩
theorem en_X9_fault {l : Launch} {D : gD} {d : Nat} {q : Int32 → gMem → Prop} {r0 : Nat} {x1 : Int32} {μ : gMem} (h : ∀ Γ : gC, pt_X9_fault_0 l D d q Γ r0 x1 μ) : Ctr l D d yX9_fault cX9_fault 2 (some .int) [.ref (D.2.2 9 r0), .int x1] μ (pI q) :=
  Ctr_of rfl (by decide) (Nat.le_of_ble_eq_true rfl) (fun Γ => g_sub [0, 1] rfl (h Γ))
def pt_X9_named_0 (l : Launch) (D : gD) (d : Nat) (q : Int32 → gMem → Prop) (Γ : gC) (r0 : Nat) (x1 : Int32) (x2 : Int32) (μ : gMem) : Prop := G l D RX9 cX9_named 3 (some .int) d (pI q) Γ 0 [(0, .ref (D.2.2 9 r0)), (1, .int x1), (2, .int x2)] [] μ
set_option maxRecDepth 20000 in
set_option maxHeartbeats 4000000 in
theorem bl_X9_named_0 {l : Launch} {D : gD} {d : Nat} {q : Int32 → gMem → Prop} {Γ : gC} {r0 : Nat} {x1 : Int32} {x2 : Int32} {μ : gMem} (hr0 : r0 < 1) (h : ((¬ x1 = 0) → ((¬ x1 = (1 : Int32)) → q (-1 : Int32) μ) ∧ ((x1 = (1 : Int32)) → (μ.2.2 0 < 2) ∧ ((μ.2.2 0 < 2) ∧ (∃ (d_5 : Nat) (q_6 : Int32 → gMem → Prop), d_5 < d ∧ Ctr l D d_5 yX9_placeOf cX9_placeOf 4 (some .int) [.int x2, .ref (D.2.2 518 (μ.2.2 0)), .int (μ.1 7 (μ.2.2 0) 5)] μ (pI q_6) ∧ ∀ (v_10 : Int32) (μ_9 : gMem), q_6 v_10 μ_9 → q v_10 μ_9)))) ∧ ((x1 = 0) → (μ.2.2 0 < 2) ∧ ((μ.2.2 0 < 2) ∧ (∃ (d_14 : Nat) (q_15 : Int32 → gMem → Prop), d_14 < d ∧ Ctr l D d_14 yX9_placeOf cX9_placeOf 4 (some .int) [.int x2, .ref (D.2.2 513 (μ.2.2 0)), .int (μ.1 7 (μ.2.2 0) 0)] μ (pI q_15) ∧ ∀ (v_19 : Int32) (μ_18 : gMem), q_15 v_19 μ_18 → q v_19 μ_18)))) : pt_X9_named_0 l D d q Γ r0 x1 x2 μ := by
  unfold pt_X9_named_0
  refine g_iload_n dX9_named_0 rfl ?_
  refine g_if_ne (tgt := 23) dX9_named_1 (by decide) (fun c_1 => ?_) (fun c_1 => ?_)
  · have h := h.1 c_1
    refine g_iload_n dX9_named_23 rfl ?_
    refine g_iconst (1 : Int32) dX9_named_24 rfl ?_
    refine g_icmp_ne (tgt := 49) dX9_named_25 (by decide) (fun c_2 => ?_) (fun c_2 => ?_)
    · have h := h.1 c_2
      refine g_iconst (-1 : Int32) dX9_named_49 rfl ?_
      exact g_iret dX9_named_50 rfl rfl ⟨_, rfl, h⟩
    · have h := h.2 c_2
      refine g_iload_n dX9_named_28 rfl ?_
      refine g_aload_n dX9_named_29 rfl ?_
      obtain ⟨hR_3, h⟩ := h
      refine g_gfR fl_9_28 rfl hr0 dX9_named_30 ?_
      refine g_gfR fl_9_115 rfl hR_3 dX9_named_33 ?_
      refine g_aload_n dX9_named_36 rfl ?_
      obtain ⟨hR_4, h⟩ := h
      refine g_gfR fl_9_28 rfl hr0 dX9_named_37 ?_
      refine g_gfI fi_9_118 hR_4 dX9_named_40 ?_
      obtain ⟨d_5, q_6, hd_7, hc_8, h⟩ := h
      refine g_callS ca_X9_111 hc_8 hd_7 (by decide) rfl rfl (by first | exact Nat.le_of_ble_eq_true rfl | decide) dX9_named_43 (kI (fun v_10 μ_9 hq_11 => ?_))
      have h := h v_10 μ_9 hq_11
      refine g_goto (tgt := 50) dX9_named_46 (by decide) ?_
      exact g_iret dX9_named_50 rfl rfl ⟨_, rfl, h⟩
  · have h := h.2 c_1
    refine g_iload_n dX9_named_4 rfl ?_
    refine g_aload_n dX9_named_5 rfl ?_
    obtain ⟨hR_12, h⟩ := h
    refine g_gfR fl_9_28 rfl hr0 dX9_named_6 ?_
    refine g_gfR fl_9_105 rfl hR_12 dX9_named_9 ?_
    refine g_aload_n dX9_named_12 rfl ?_
    obtain ⟨hR_13, h⟩ := h
    refine g_gfR fl_9_28 rfl hr0 dX9_named_13 ?_
    refine g_gfI fi_9_108 hR_13 dX9_named_16 ?_
    obtain ⟨d_14, q_15, hd_16, hc_17, h⟩ := h
    refine g_callS ca_X9_111 hc_17 hd_16 (by decide) rfl rfl (by first | exact Nat.le_of_ble_eq_true rfl | decide) dX9_named_19 (kI (fun v_19 μ_18 hq_20 => ?_))
    have h := h v_19 μ_18 hq_20
    exact g_iret dX9_named_22 rfl rfl ⟨_, rfl, h⟩
theorem en_X9_named {l : Launch} {D : gD} {d : Nat} {q : Int32 → gMem → Prop} {r0 : Nat} {x1 : Int32} {x2 : Int32} {μ : gMem} (h : ∀ Γ : gC, pt_X9_named_0 l D d q Γ r0 x1 x2 μ) : Ctr l D d yX9_named cX9_named 3 (some .int) [.ref (D.2.2 9 r0), .int x1, .int x2] μ (pI q) :=
  Ctr_of rfl (by decide) (Nat.le_of_ble_eq_true rfl) (fun Γ => g_sub [0, 1, 2] rfl (h Γ))
def pt_X9_has_0 (l : Launch) (D : gD) (d : Nat) (q : Int32 → gMem → Prop) (Γ : gC) (r0 : Nat) (x1 : Int32) (x2 : Int32) (μ : gMem) : Prop := G l D RX9 cX9_has 4 (some .int) d (pI q) Γ 0 [(0, .ref (D.2.2 9 r0)), (1, .int x1), (2, .int x2)] [] μ
set_option maxRecDepth 20000 in
set_option maxHeartbeats 4000000 in
theorem bl_X9_has_0 {l : Launch} {D : gD} {d : Nat} {q : Int32 → gMem → Prop} {Γ : gC} {r0 : Nat} {x1 : Int32} {x2 : Int32} {μ : gMem} (hr0 : r0 < 1) (h : (1 < d) ∧ (μ.2.2 0 < 2) ∧ (((¬ (iw x1 (0 : Int32) (μ.1 7 (μ.2.2 0) 0 - (1 : Int32))) = 0) → ∃ j_7 : Nat, j_7 < 5 ∧ x1 = nI j_7 ∧ ((x2 = (0 : Int32) → (((μ.1 4 (5 * 0 + j_7) 10) = 0) → q (0 : Int32) μ) ∧ ((¬ (μ.1 4 (5 * 0 + j_7) 10) = 0) → q (1 : Int32) μ)) ∧ (x2 = (1 : Int32) → q (μ.1 4 (5 * 0 + j_7) 9) μ) ∧ (x2 = (2 : Int32) → q (μ.1 4 (5 * 0 + j_7) 7) μ) ∧ (x2 = (3 : Int32) → q (μ.1 4 (5 * 0 + j_7) 8) μ) ∧ ((¬ x2 = (0 : Int32) ∧ ¬ x2 = (1 : Int32) ∧ ¬ x2 = (2 : Int32) ∧ ¬ x2 = (3 : Int32)) → q (-1 : Int32) μ))) ∧ (((iw x1 (0 : Int32) (μ.1 7 (μ.2.2 0) 0 - (1 : Int32))) = 0) → q (-1 : Int32) μ))) : pt_X9_has_0 l D d q Γ r0 x1 x2 μ := by
  unfold pt_X9_has_0
  refine g_aload_n dX9_has_0 rfl ?_
  refine g_iload_n dX9_has_1 rfl ?_
  obtain ⟨hd_1, hs_2, h⟩ := h
  refine g_cV ca_X9_121 ob_9 (c_X9_isMan (d := 1) (Nat.le_refl _) hr0 hs_2 ) hd_1 (by decide) hr0 rfl rfl (by first | exact Nat.le_of_ble_eq_true rfl | decide) dX9_has_2 (kI (fun v_3 μ_4 hq_5 => ?_))
  obtain ⟨ev_3, eμ_4⟩ := hq_5
  subst ev_3
  refine g_mem eμ_4 ?_
  refine g_if_ne (tgt := 10) dX9_has_5 (by decide) (fun c_6 => ?_) (fun c_6 => ?_)
  · have h := h.1 c_6
    refine g_aload_n dX9_has_10 rfl ?_
    refine g_gfR fl_9_38 rfl hr0 dX9_has_11 ?_
    refine g_gfR fl_9_132 rfl (by decide) dX9_has_14 ?_
    refine g_iload_n dX9_has_17 rfl ?_
    obtain ⟨j_7, hj_7, ej_7, h⟩ := h
    refine g_aald j_7 (by decide) hj_7 ej_7 dX9_has_18 ?_
    have hp_8 : 5 * 0 + j_7 < 15 := by have : 0 < 3 := (by decide); omega
    refine g_astore_n dX9_has_19 (by decide) (g_sub (lv' := [(2, .int x2), (3, .ref (D.2.2 4 (5 * 0 + j_7)))]) [3, 0] rfl ?_)
    refine g_iload_n dX9_has_20 rfl ?_
    by_cases c_9_0 : x2 = (0 : Int32)
    · refine g_tableIn (off := 31) (tgt := 52) dX9_has_21 (by rw [c_9_0]; decide) (by rw [c_9_0]; decide) (by rw [c_9_0]; rfl) (by decide) ?_
      have h := h.1 c_9_0
      refine g_aload_n dX9_has_52 rfl ?_
      refine g_gfI fi_9_167 hp_8 dX9_has_53 ?_
      refine g_if_eq (tgt := 63) dX9_has_56 (by decide) (fun c_10 => ?_) (fun c_10 => ?_)
      · have h := h.1 c_10
        refine g_iconst (0 : Int32) dX9_has_63 rfl ?_
        exact g_iret dX9_has_64 rfl rfl ⟨_, rfl, h⟩
      · have h := h.2 c_10
        refine g_iconst (1 : Int32) dX9_has_59 rfl ?_
        refine g_goto (tgt := 64) dX9_has_60 (by decide) ?_
        exact g_iret dX9_has_64 rfl rfl ⟨_, rfl, h⟩
    by_cases c_9_1 : x2 = (1 : Int32)
    · refine g_tableIn (off := 44) (tgt := 65) dX9_has_21 (by rw [c_9_1]; decide) (by rw [c_9_1]; decide) (by rw [c_9_1]; rfl) (by decide) ?_
      have h := h.2.1 c_9_1
      refine g_aload_n dX9_has_65 rfl ?_
      refine g_gfI fi_9_170 hp_8 dX9_has_66 ?_
      exact g_iret dX9_has_69 rfl rfl ⟨_, rfl, h⟩
    by_cases c_9_2 : x2 = (2 : Int32)
    · refine g_tableIn (off := 49) (tgt := 70) dX9_has_21 (by rw [c_9_2]; decide) (by rw [c_9_2]; decide) (by rw [c_9_2]; rfl) (by decide) ?_
      have h := h.2.2.1 c_9_2
      refine g_aload_n dX9_has_70 rfl ?_
      refine g_gfI fi_9_173 hp_8 dX9_has_71 ?_
      exact g_iret dX9_has_74 rfl rfl ⟨_, rfl, h⟩
    by_cases c_9_3 : x2 = (3 : Int32)
    · refine g_tableIn (off := 54) (tgt := 75) dX9_has_21 (by rw [c_9_3]; decide) (by rw [c_9_3]; decide) (by rw [c_9_3]; rfl) (by decide) ?_
      have h := h.2.2.2.1 c_9_3
      refine g_aload_n dX9_has_75 rfl ?_
      refine g_gfI fi_9_176 hp_8 dX9_has_76 ?_
      exact g_iret dX9_has_79 rfl rfl ⟨_, rfl, h⟩
    have c_9_o : (x2).toInt < 0 ∨ 3 < (x2).toInt := by
      have := lv_neT c_9_0 (a := 0) rfl
      have := lv_neT c_9_1 (a := 1) rfl
      have := lv_neT c_9_2 (a := 2) rfl
      have := lv_neT c_9_3 (a := 3) rfl
      omega
    refine g_tableOut (tgt := 80) dX9_has_21 c_9_o (by decide) ?_
    have h := h.2.2.2.2 ⟨c_9_0, c_9_1, c_9_2, c_9_3⟩
    refine g_iconst (-1 : Int32) dX9_has_80 rfl ?_
    exact g_iret dX9_has_81 rfl rfl ⟨_, rfl, h⟩
  · have h := h.2 c_6
    refine g_iconst (-1 : Int32) dX9_has_8 rfl ?_
    exact g_iret dX9_has_9 rfl rfl ⟨_, rfl, h⟩
theorem en_X9_has {l : Launch} {D : gD} {d : Nat} {q : Int32 → gMem → Prop} {r0 : Nat} {x1 : Int32} {x2 : Int32} {μ : gMem} (h : ∀ Γ : gC, pt_X9_has_0 l D d q Γ r0 x1 x2 μ) : Ctr l D d yX9_has cX9_has 4 (some .int) [.ref (D.2.2 9 r0), .int x1, .int x2] μ (pI q) :=
  Ctr_of rfl (by decide) (Nat.le_of_ble_eq_true rfl) (fun Γ => g_sub [0, 1, 2] rfl (h Γ))
def pt_X9_deed_0 (l : Launch) (D : gD) (d : Nat) (q : Int32 → gMem → Prop) (Γ : gC) (r0 : Nat) (x1 : Int32) (x2 : Int32) (μ : gMem) : Prop := G l D RX9 cX9_deed 3 (some .int) d (pI q) Γ 0 [(0, .ref (D.2.2 9 r0)), (1, .int x1), (2, .int x2)] [] μ
set_option maxRecDepth 20000 in
set_option maxHeartbeats 4000000 in
theorem bl_X9_deed_0 {l : Launch} {D : gD} {d : Nat} {q : Int32 → gMem → Prop} {Γ : gC} {r0 : Nat} {x1 : Int32} {x2 : Int32} {μ : gMem} (hr0 : r0 < 1) (h : (1 < d) ∧ (μ.2.2 0 < 2) ∧ (((¬ (iw x1 (0 : Int32) (μ.1 7 (μ.2.2 0) 5 - (1 : Int32))) = 0) → (x2 = (0 : Int32) → (μ.2.2 0 < 2) ∧ (∃ j_9 : Nat, j_9 < 6 ∧ x1 = nI j_9 ∧ (q (μ.1 519 (μ.2.2 0) j_9) μ))) ∧ (x2 = (1 : Int32) → (μ.2.2 0 < 2) ∧ (∃ j_11 : Nat, j_11 < 6 ∧ x1 = nI j_11 ∧ (q (μ.1 520 (μ.2.2 0) j_11) μ))) ∧ (x2 = (2 : Int32) → (μ.2.2 0 < 2) ∧ (∃ j_13 : Nat, j_13 < 6 ∧ x1 = nI j_13 ∧ (q (μ.1 521 (μ.2.2 0) j_13) μ))) ∧ ((¬ x2 = (0 : Int32) ∧ ¬ x2 = (1 : Int32) ∧ ¬ x2 = (2 : Int32)) → q (-1 : Int32) μ)) ∧ (((iw x1 (0 : Int32) (μ.1 7 (μ.2.2 0) 5 - (1 : Int32))) = 0) → q (-1 : Int32) μ))) : pt_X9_deed_0 l D d q Γ r0 x1 x2 μ := by
  unfold pt_X9_deed_0
  refine g_aload_n dX9_deed_0 rfl ?_
  refine g_iload_n dX9_deed_1 rfl ?_
  obtain ⟨hd_1, hs_2, h⟩ := h
  refine g_cV ca_X9_179 ob_9 (c_X9_isDeed (d := 1) (Nat.le_refl _) hr0 hs_2 ) hd_1 (by decide) hr0 rfl rfl (by first | exact Nat.le_of_ble_eq_true rfl | decide) dX9_deed_2 (kI (fun v_3 μ_4 hq_5 => ?_))
  obtain ⟨ev_3, eμ_4⟩ := hq_5
  subst ev_3
  refine g_mem eμ_4 ?_
  refine g_if_ne (tgt := 10) dX9_deed_5 (by decide) (fun c_6 => ?_) (fun c_6 => ?_)
  · have h := h.1 c_6
    refine g_iload_n dX9_deed_10 rfl ?_
    by_cases c_7_0 : x2 = (0 : Int32)
    · refine g_tableIn (off := 25) (tgt := 36) dX9_deed_11 (by rw [c_7_0]; decide) (by rw [c_7_0]; decide) (by rw [c_7_0]; rfl) (by decide) ?_
      have h := h.1 c_7_0
      refine g_aload_n dX9_deed_36 rfl ?_
      obtain ⟨hR_8, h⟩ := h
      refine g_gfR fl_9_28 rfl hr0 dX9_deed_37 ?_
      refine g_gfR fl_9_182 rfl hR_8 dX9_deed_40 ?_
      refine g_iload_n dX9_deed_43 rfl ?_
      obtain ⟨j_9, hj_9, ej_9, h⟩ := h
      refine g_iald j_9 hR_8 rfl hj_9 (by decide) ej_9 dX9_deed_44 ?_
      exact g_iret dX9_deed_45 rfl rfl ⟨_, rfl, h⟩
    by_cases c_7_1 : x2 = (1 : Int32)
    · refine g_tableIn (off := 35) (tgt := 46) dX9_deed_11 (by rw [c_7_1]; decide) (by rw [c_7_1]; decide) (by rw [c_7_1]; rfl) (by decide) ?_
      have h := h.2.1 c_7_1
      refine g_aload_n dX9_deed_46 rfl ?_
      obtain ⟨hR_10, h⟩ := h
      refine g_gfR fl_9_28 rfl hr0 dX9_deed_47 ?_
      refine g_gfR fl_9_185 rfl hR_10 dX9_deed_50 ?_
      refine g_iload_n dX9_deed_53 rfl ?_
      obtain ⟨j_11, hj_11, ej_11, h⟩ := h
      refine g_iald j_11 hR_10 rfl hj_11 (by decide) ej_11 dX9_deed_54 ?_
      exact g_iret dX9_deed_55 rfl rfl ⟨_, rfl, h⟩
    by_cases c_7_2 : x2 = (2 : Int32)
    · refine g_tableIn (off := 45) (tgt := 56) dX9_deed_11 (by rw [c_7_2]; decide) (by rw [c_7_2]; decide) (by rw [c_7_2]; rfl) (by decide) ?_
      have h := h.2.2.1 c_7_2
      refine g_aload_n dX9_deed_56 rfl ?_
      obtain ⟨hR_12, h⟩ := h
      refine g_gfR fl_9_28 rfl hr0 dX9_deed_57 ?_
      refine g_gfR fl_9_188 rfl hR_12 dX9_deed_60 ?_
      refine g_iload_n dX9_deed_63 rfl ?_
      obtain ⟨j_13, hj_13, ej_13, h⟩ := h
      refine g_iald j_13 hR_12 rfl hj_13 (by decide) ej_13 dX9_deed_64 ?_
      exact g_iret dX9_deed_65 rfl rfl ⟨_, rfl, h⟩
    have c_7_o : (x2).toInt < 0 ∨ 2 < (x2).toInt := by
      have := lv_neT c_7_0 (a := 0) rfl
      have := lv_neT c_7_1 (a := 1) rfl
      have := lv_neT c_7_2 (a := 2) rfl
      omega
    refine g_tableOut (tgt := 66) dX9_deed_11 c_7_o (by decide) ?_
    have h := h.2.2.2 ⟨c_7_0, c_7_1, c_7_2⟩
    refine g_iconst (-1 : Int32) dX9_deed_66 rfl ?_
    exact g_iret dX9_deed_67 rfl rfl ⟨_, rfl, h⟩
  · have h := h.2 c_6
    refine g_iconst (-1 : Int32) dX9_deed_8 rfl ?_
    exact g_iret dX9_deed_9 rfl rfl ⟨_, rfl, h⟩
theorem en_X9_deed {l : Launch} {D : gD} {d : Nat} {q : Int32 → gMem → Prop} {r0 : Nat} {x1 : Int32} {x2 : Int32} {μ : gMem} (h : ∀ Γ : gC, pt_X9_deed_0 l D d q Γ r0 x1 x2 μ) : Ctr l D d yX9_deed cX9_deed 3 (some .int) [.ref (D.2.2 9 r0), .int x1, .int x2] μ (pI q) :=
  Ctr_of rfl (by decide) (Nat.le_of_ble_eq_true rfl) (fun Γ => g_sub [0, 1, 2] rfl (h Γ))
def pt_X9_times_0 (l : Launch) (D : gD) (d : Nat) (q : Int32 → gMem → Prop) (Γ : gC) (r0 : Nat) (x1 : Int32) (x2 : Int32) (μ : gMem) : Prop := G l D RX9 cX9_times 3 (some .int) d (pI q) Γ 0 [(0, .ref (D.2.2 9 r0)), (1, .int x1), (2, .int x2)] [] μ
set_option maxRecDepth 20000 in
set_option maxHeartbeats 4000000 in
theorem bl_X9_times_0 {l : Launch} {D : gD} {d : Nat} {q : Int32 → gMem → Prop} {Γ : gC} {r0 : Nat} {x1 : Int32} {x2 : Int32} {μ : gMem} (hr0 : r0 < 1) (h : (1 < d) ∧ (μ.2.2 0 < 2) ∧ ((((iw x1 (0 : Int32) (μ.1 7 (μ.2.2 0) 0 - (1 : Int32))) = 0) → q (-1 : Int32) μ) ∧ ((¬ (iw x1 (0 : Int32) (μ.1 7 (μ.2.2 0) 0 - (1 : Int32))) = 0) → (1 < d) ∧ (μ.2.2 0 < 2) ∧ ((((iw x2 (0 : Int32) (μ.1 7 (μ.2.2 0) 5 - (1 : Int32))) = 0) → q (-1 : Int32) μ) ∧ ((¬ (iw x2 (0 : Int32) (μ.1 7 (μ.2.2 0) 5 - (1 : Int32))) = 0) → ∃ j_13 : Nat, j_13 < 5 ∧ x1 = nI j_13 ∧ (∃ j_15 : Nat, j_15 < 6 ∧ x2 = nI j_15 ∧ (q (μ.1 331 (5 * 0 + j_13) j_15) μ))))))) : pt_X9_times_0 l D d q Γ r0 x1 x2 μ := by
  unfold pt_X9_times_0
  refine g_aload_n dX9_times_0 rfl ?_
  refine g_iload_n dX9_times_1 rfl ?_
  obtain ⟨hd_1, hs_2, h⟩ := h
  refine g_cV ca_X9_121 ob_9 (c_X9_isMan (d := 1) (Nat.le_refl _) hr0 hs_2 ) hd_1 (by decide) hr0 rfl rfl (by first | exact Nat.le_of_ble_eq_true rfl | decide) dX9_times_2 (kI (fun v_3 μ_4 hq_5 => ?_))
  obtain ⟨ev_3, eμ_4⟩ := hq_5
  subst ev_3
  refine g_mem eμ_4 ?_
  refine g_if_eq (tgt := 33) dX9_times_5 (by decide) (fun c_6 => ?_) (fun c_6 => ?_)
  · have h := h.1 c_6
    refine g_iconst (-1 : Int32) dX9_times_33 rfl ?_
    exact g_iret dX9_times_34 rfl rfl ⟨_, rfl, h⟩
  · have h := h.2 c_6
    refine g_aload_n dX9_times_8 rfl ?_
    refine g_iload_n dX9_times_9 rfl ?_
    obtain ⟨hd_7, hs_8, h⟩ := h
    refine g_cV ca_X9_179 ob_9 (c_X9_isDeed (d := 1) (Nat.le_refl _) hr0 hs_8 ) hd_7 (by decide) hr0 rfl rfl (by first | exact Nat.le_of_ble_eq_true rfl | decide) dX9_times_10 (kI (fun v_9 μ_10 hq_11 => ?_))
    obtain ⟨ev_9, eμ_10⟩ := hq_11
    subst ev_9
    refine g_mem eμ_10 ?_
    refine g_if_eq (tgt := 33) dX9_times_13 (by decide) (fun c_12 => ?_) (fun c_12 => ?_)
    · have h := h.1 c_12
      refine g_iconst (-1 : Int32) dX9_times_33 rfl ?_
      exact g_iret dX9_times_34 rfl rfl ⟨_, rfl, h⟩
    · have h := h.2 c_12
      refine g_aload_n dX9_times_16 rfl ?_
      refine g_gfR fl_9_38 rfl hr0 dX9_times_17 ?_
      refine g_gfR fl_9_132 rfl (by decide) dX9_times_20 ?_
      refine g_iload_n dX9_times_23 rfl ?_
      obtain ⟨j_13, hj_13, ej_13, h⟩ := h
      refine g_aald j_13 (by decide) hj_13 ej_13 dX9_times_24 ?_
      have hp_14 : 5 * 0 + j_13 < 15 := by have : 0 < 3 := (by decide); omega
      refine g_gfR fl_9_191 rfl hp_14 dX9_times_25 ?_
      refine g_iload_n dX9_times_28 rfl ?_
      obtain ⟨j_15, hj_15, ej_15, h⟩ := h
      refine g_iald j_15 hp_14 rfl hj_15 (by decide) ej_15 dX9_times_29 ?_
      refine g_goto (tgt := 34) dX9_times_30 (by decide) ?_
      exact g_iret dX9_times_34 rfl rfl ⟨_, rfl, h⟩
theorem en_X9_times {l : Launch} {D : gD} {d : Nat} {q : Int32 → gMem → Prop} {r0 : Nat} {x1 : Int32} {x2 : Int32} {μ : gMem} (h : ∀ Γ : gC, pt_X9_times_0 l D d q Γ r0 x1 x2 μ) : Ctr l D d yX9_times cX9_times 3 (some .int) [.ref (D.2.2 9 r0), .int x1, .int x2] μ (pI q) :=
  Ctr_of rfl (by decide) (Nat.le_of_ble_eq_true rfl) (fun Γ => g_sub [0, 1, 2] rfl (h Γ))
def pt_X9_law_0 (l : Launch) (D : gD) (d : Nat) (q : Int64 → gMem → Prop) (Γ : gC) (r0 : Nat) (x1 : Int32) (x2 : Int32) (μ : gMem) : Prop := G l D RX9 cX9_law 4 (some .long) d (pJ q) Γ 0 [(0, .ref (D.2.2 9 r0)), (1, .int x1), (2, .int x2)] [] μ
set_option maxRecDepth 20000 in
set_option maxHeartbeats 4000000 in
theorem bl_X9_law_0 {l : Launch} {D : gD} {d : Nat} {q : Int64 → gMem → Prop} {Γ : gC} {r0 : Nat} {x1 : Int32} {x2 : Int32} {μ : gMem} (hr0 : r0 < 1) (h : (0 < d) ∧ ((((iw x1 (0 : Int32) (2 : Int32)) = 0) → q (-9223372036854775808 : Int64) μ) ∧ ((¬ (iw x1 (0 : Int32) (2 : Int32)) = 0) → (1 < d) ∧ (μ.2.2 0 < 2) ∧ ((((iw x2 (0 : Int32) (μ.1 7 (μ.2.2 0) 0 - (1 : Int32))) = 0) → q (-9223372036854775808 : Int64) μ) ∧ ((¬ (iw x2 (0 : Int32) (μ.1 7 (μ.2.2 0) 0 - (1 : Int32))) = 0) → (μ.2.2 0 < 2) ∧ (∃ (d_13 : Nat) (q_14 : Int32 → gMem → Prop), d_13 < d ∧ Ctr l D d_13 yX2_isTold cX2_isTold 2 (some .boolean) [.ref (D.2.2 2 (μ.2.2 0)), .int x1] μ (pI q_14) ∧ ∀ (v_18 : Int32) (μ_17 : gMem), q_14 v_18 μ_17 → ((¬ v_18 = 0) → ∃ j_21 : Nat, j_21 < 5 ∧ x2 = nI j_21 ∧ ((μ_17.2.2 0 < 2) ∧ ((μ_17.2.2 0 < 2) ∧ (∃ (d_25 : Nat) (q_26 : Int32 → gMem → Prop), d_25 < d ∧ Ctr l D d_25 yX4_stepsOn cX4_stepsOn 3 (some .int) [.ref (D.2.2 4 (5 * 0 + j_21)), .int (μ_17.1 4 (5 * 0 + j_21) 1), .ref (D.2.2 7 (μ_17.2.2 0))] μ_17 (pI q_26) ∧ ∀ (v_30 : Int32) (μ_29 : gMem), q_26 v_30 μ_29 → ∃ (d_32 : Nat) (q_33 : gMem → Prop), d_32 < d ∧ Ctr l D d_32 yX8_setNames cX8_setNames 6 none [.ref (D.2.2 8 0), .ref (D.2.2 2 (μ_17.2.2 0)), .ref (D.2.2 4 (5 * 0 + j_21)), .int v_30] μ_29 (pV q_33) ∧ ∀ (μ_36 : gMem), q_33 μ_36 → (μ_36.2.2 0 < 2) ∧ (∃ (d_40 : Nat) (q_41 : Int32 → gMem → Prop), d_40 < d ∧ Ctr l D d_40 yX2_workOut cX2_workOut 5 (some .boolean) [.ref (D.2.2 2 (μ_36.2.2 0)), .int x1] μ_36 (pI q_41) ∧ ∀ (v_45 : Int32) (μ_44 : gMem), q_41 v_45 μ_44 → ((v_45 = 0) → q (-9223372036854775808 : Int64) μ_44) ∧ ((¬ v_45 = 0) → (μ_44.2.2 0 < 2) ∧ (q (μ_44.2.1 2 (μ_44.2.2 0) 9) μ_44))))))) ∧ ((v_18 = 0) → q (-9223372036854775808 : Int64) μ_17))))))) : pt_X9_law_0 l D d q Γ r0 x1 x2 μ := by
  unfold pt_X9_law_0
  refine g_iload_n dX9_law_0 rfl ?_
  refine g_iconst (0 : Int32) dX9_law_1 rfl ?_
  refine g_iconst (2 : Int32) dX9_law_2 rfl ?_
  obtain ⟨hd_1, h⟩ := h
  refine g_callS ca_X9_194 (c_X9_isWithin (d := 0) (Nat.le_refl _) ) hd_1 (by decide) rfl rfl (by first | exact Nat.le_of_ble_eq_true rfl | decide) dX9_law_3 (kI (fun v_2 μ_3 hq_4 => ?_))
  obtain ⟨ev_2, eμ_3⟩ := hq_4
  subst ev_2
  refine g_mem eμ_3 ?_
  refine g_if_eq (tgt := 31) dX9_law_6 (by decide) (fun c_5 => ?_) (fun c_5 => ?_)
  · have h := h.1 c_5
    refine g_ldc2 kc_X9_209 dX9_law_31 ?_
    exact g_lret dX9_law_34 rfl ⟨_, rfl, h⟩
  · have h := h.2 c_5
    refine g_aload_n dX9_law_9 rfl ?_
    refine g_iload_n dX9_law_10 rfl ?_
    obtain ⟨hd_6, hs_7, h⟩ := h
    refine g_cV ca_X9_121 ob_9 (c_X9_isMan (d := 1) (Nat.le_refl _) hr0 hs_7 ) hd_6 (by decide) hr0 rfl rfl (by first | exact Nat.le_of_ble_eq_true rfl | decide) dX9_law_11 (kI (fun v_8 μ_9 hq_10 => ?_))
    obtain ⟨ev_8, eμ_9⟩ := hq_10
    subst ev_8
    refine g_mem eμ_9 ?_
    refine g_if_eq (tgt := 31) dX9_law_14 (by decide) (fun c_11 => ?_) (fun c_11 => ?_)
    · have h := h.1 c_11
      refine g_ldc2 kc_X9_209 dX9_law_31 ?_
      exact g_lret dX9_law_34 rfl ⟨_, rfl, h⟩
    · have h := h.2 c_11
      refine g_aload_n dX9_law_17 rfl ?_
      obtain ⟨hR_12, h⟩ := h
      refine g_gfR fl_9_28 rfl hr0 dX9_law_18 ?_
      refine g_gfR fl_9_198 rfl hR_12 dX9_law_21 ?_
      refine g_iload_n dX9_law_24 rfl ?_
      obtain ⟨d_13, q_14, hd_15, hc_16, h⟩ := h
      refine g_cV ca_X9_202 ob_2 hc_16 hd_15 (by decide) hR_12 rfl rfl (by first | exact Nat.le_of_ble_eq_true rfl | decide) dX9_law_25 (kI (fun v_18 μ_17 hq_19 => ?_))
      have h := h v_18 μ_17 hq_19
      refine g_if_ne (tgt := 35) dX9_law_28 (by decide) (fun c_20 => ?_) (fun c_20 => ?_)
      · have h := h.1 c_20
        refine g_aload_n dX9_law_35 rfl ?_
        refine g_gfR fl_9_38 rfl hr0 dX9_law_36 ?_
        refine g_gfR fl_9_132 rfl (by decide) dX9_law_39 ?_
        refine g_iload_n dX9_law_42 rfl ?_
        obtain ⟨j_21, hj_21, ej_21, h⟩ := h
        refine g_aald j_21 (by decide) hj_21 ej_21 dX9_law_43 ?_
        have hp_22 : 5 * 0 + j_21 < 15 := by have : 0 < 3 := (by decide); omega
        refine g_astore_n dX9_law_44 (by decide) (g_sub (lv' := [(0, .ref (D.2.2 9 r0)), (1, .int x1), (3, .ref (D.2.2 4 (5 * 0 + j_21)))]) [1, 2, 0] rfl ?_)
        refine g_aload_n dX9_law_45 rfl ?_
        refine g_gfR fl_9_38 rfl hr0 dX9_law_46 ?_
        refine g_aload_n dX9_law_49 rfl ?_
        obtain ⟨hR_23, h⟩ := h
        refine g_gfR fl_9_28 rfl hr0 dX9_law_50 ?_
        refine g_gfR fl_9_198 rfl hR_23 dX9_law_53 ?_
        refine g_aload_n dX9_law_56 rfl ?_
        refine g_aload_n dX9_law_57 rfl ?_
        refine g_aload_n dX9_law_58 rfl ?_
        refine g_gfI fi_9_141 hp_22 dX9_law_59 ?_
        refine g_aload_n dX9_law_62 rfl ?_
        obtain ⟨hR_24, h⟩ := h
        refine g_gfR fl_9_28 rfl hr0 dX9_law_63 ?_
        obtain ⟨d_25, q_26, hd_27, hc_28, h⟩ := h
        refine g_cV ca_X9_211 ob_4 hc_28 hd_27 (by decide) hp_22 rfl rfl (by first | exact Nat.le_of_ble_eq_true rfl | decide) dX9_law_66 (kI (fun v_30 μ_29 hq_31 => ?_))
        have h := h v_30 μ_29 hq_31
        obtain ⟨d_32, q_33, hd_34, hc_35, h⟩ := h
        refine g_cV ca_X9_215 ob_8 hc_35 hd_34 (by decide) (by decide) rfl rfl (by first | exact Nat.le_of_ble_eq_true rfl | decide) dX9_law_69 (kV (fun μ_36 hq_38 => ?_))
        have h := h μ_36 hq_38
        refine g_aload_n dX9_law_72 rfl ?_
        obtain ⟨hR_39, h⟩ := h
        refine g_gfR fl_9_28 rfl hr0 dX9_law_73 ?_
        refine g_gfR fl_9_198 rfl hR_39 dX9_law_76 ?_
        refine g_iload_n dX9_law_79 rfl ?_
        obtain ⟨d_40, q_41, hd_42, hc_43, h⟩ := h
        refine g_cV ca_X9_219 ob_2 hc_43 hd_42 (by decide) hR_39 rfl rfl (by first | exact Nat.le_of_ble_eq_true rfl | decide) dX9_law_80 (kI (fun v_45 μ_44 hq_46 => ?_))
        have h := h v_45 μ_44 hq_46
        refine g_if_eq (tgt := 99) dX9_law_83 (by decide) (fun c_47 => ?_) (fun c_47 => ?_)
        · have h := h.1 c_47
          refine g_ldc2 kc_X9_209 dX9_law_99 ?_
          exact g_lret dX9_law_102 rfl ⟨_, rfl, h⟩
        · have h := h.2 c_47
          refine g_aload_n dX9_law_86 rfl ?_
          obtain ⟨hR_48, h⟩ := h
          refine g_gfR fl_9_28 rfl hr0 dX9_law_87 ?_
          refine g_gfR fl_9_198 rfl hR_48 dX9_law_90 ?_
          refine g_gfJ fi_9_222 hR_48 dX9_law_93 ?_
          refine g_goto (tgt := 102) dX9_law_96 (by decide) ?_
          exact g_lret dX9_law_102 rfl ⟨_, rfl, h⟩
      · have h := h.2 c_20
        refine g_ldc2 kc_X9_209 dX9_law_31 ?_
        exact g_lret dX9_law_34 rfl ⟨_, rfl, h⟩
theorem en_X9_law {l : Launch} {D : gD} {d : Nat} {q : Int64 → gMem → Prop} {r0 : Nat} {x1 : Int32} {x2 : Int32} {μ : gMem} (h : ∀ Γ : gC, pt_X9_law_0 l D d q Γ r0 x1 x2 μ) : Ctr l D d yX9_law cX9_law 4 (some .long) [.ref (D.2.2 9 r0), .int x1, .int x2] μ (pJ q) :=
  Ctr_of rfl (by decide) (Nat.le_of_ble_eq_true rfl) (fun Γ => g_sub [0, 1, 2] rfl (h Γ))
def pt_X9_wear_0 (l : Launch) (D : gD) (d : Nat) (q : Int32 → gMem → Prop) (Γ : gC) (r0 : Nat) (x1 : Int32) (x2 : Int32) (μ : gMem) : Prop := G l D RX9 cX9_wear 3 (some .boolean) d (pI q) Γ 0 [(0, .ref (D.2.2 9 r0)), (1, .int x1), (2, .int x2)] [] μ
def pt_X9_wear_1 (l : Launch) (D : gD) (d : Nat) (q : Int32 → gMem → Prop) (Γ : gC) (r0 : Nat) (x1 : Int32) (x2 : Int32) (rs0 : Nat) (xs1 : Int32) (xs2 : Int32) (xs3 : Int32) (xs4 : Int32) (μ : gMem) : Prop := G l D RX9 cX9_wear 3 (some .boolean) d (pI q) Γ 42 [(0, .ref (D.2.2 9 r0)), (1, .int x1), (2, .int x2)] [.int xs4, .int xs3, .int xs2, .int xs1, .ref (D.2.2 0 rs0)] μ
set_option maxRecDepth 20000 in
set_option maxHeartbeats 4000000 in
theorem bl_X9_wear_0 {l : Launch} {D : gD} {d : Nat} {q : Int32 → gMem → Prop} {Γ : gC} {r0 : Nat} {x1 : Int32} {x2 : Int32} {μ : gMem} (hr0 : r0 < 1) (h : (1 < d) ∧ (μ.2.2 0 < 2) ∧ ((((iw x1 (0 : Int32) (μ.1 7 (μ.2.2 0) 0 - (1 : Int32))) = 0) → q (0 : Int32) μ) ∧ ((¬ (iw x1 (0 : Int32) (μ.1 7 (μ.2.2 0) 0 - (1 : Int32))) = 0) → ∃ j_7 : Nat, j_7 < 5 ∧ x1 = nI j_7 ∧ (((¬ (μ.1 4 (5 * 0 + j_7) 10) = x2) → ((x2 = 0) → pt_X9_wear_1 l D d q Γ r0 x1 x2 0 (0 : Int32) x1 (0 : Int32) (1 : Int32) μ) ∧ ((¬ x2 = 0) → pt_X9_wear_1 l D d q Γ r0 x1 x2 0 (0 : Int32) x1 (0 : Int32) (0 : Int32) μ)) ∧ (((μ.1 4 (5 * 0 + j_7) 10) = x2) → q (0 : Int32) μ))))) : pt_X9_wear_0 l D d q Γ r0 x1 x2 μ := by
  unfold pt_X9_wear_0
  refine g_aload_n dX9_wear_0 rfl ?_
  refine g_iload_n dX9_wear_1 rfl ?_
  obtain ⟨hd_1, hs_2, h⟩ := h
  refine g_cV ca_X9_121 ob_9 (c_X9_isMan (d := 1) (Nat.le_refl _) hr0 hs_2 ) hd_1 (by decide) hr0 rfl rfl (by first | exact Nat.le_of_ble_eq_true rfl | decide) dX9_wear_2 (kI (fun v_3 μ_4 hq_5 => ?_))
  obtain ⟨ev_3, eμ_4⟩ := hq_5
  subst ev_3
  refine g_mem eμ_4 ?_
  refine g_if_eq (tgt := 24) dX9_wear_5 (by decide) (fun c_6 => ?_) (fun c_6 => ?_)
  · have h := h.1 c_6
    refine g_iconst (0 : Int32) dX9_wear_24 rfl ?_
    exact g_iret dX9_wear_25 rfl rfl ⟨_, rfl, h⟩
  · have h := h.2 c_6
    refine g_aload_n dX9_wear_8 rfl ?_
    refine g_gfR fl_9_38 rfl hr0 dX9_wear_9 ?_
    refine g_gfR fl_9_132 rfl (by decide) dX9_wear_12 ?_
    refine g_iload_n dX9_wear_15 rfl ?_
    obtain ⟨j_7, hj_7, ej_7, h⟩ := h
    refine g_aald j_7 (by decide) hj_7 ej_7 dX9_wear_16 ?_
    have hp_8 : 5 * 0 + j_7 < 15 := by have : 0 < 3 := (by decide); omega
    refine g_gfI fi_9_167 hp_8 dX9_wear_17 ?_
    refine g_iload_n dX9_wear_20 rfl ?_
    refine g_icmp_ne (tgt := 26) dX9_wear_21 (by decide) (fun c_9 => ?_) (fun c_9 => ?_)
    · have h := h.1 c_9
      refine g_aload_n dX9_wear_26 rfl ?_
      refine g_gfR fl_9_58 rfl hr0 dX9_wear_27 ?_
      refine g_iconst (0 : Int32) dX9_wear_30 rfl ?_
      refine g_iload_n dX9_wear_31 rfl ?_
      refine g_iconst (0 : Int32) dX9_wear_32 rfl ?_
      refine g_iload_n dX9_wear_33 rfl ?_
      refine g_if_eq (tgt := 41) dX9_wear_34 (by decide) (fun c_10 => ?_) (fun c_10 => ?_)
      · have h := h.1 c_10
        refine g_iconst (1 : Int32) dX9_wear_41 rfl ?_
        exact g_sub [0, 1, 2] rfl h
      · have h := h.2 c_10
        refine g_iconst (0 : Int32) dX9_wear_37 rfl ?_
        refine g_goto (tgt := 42) dX9_wear_38 (by decide) ?_
        exact g_sub [0, 1, 2] rfl h
    · have h := h.2 c_9
      refine g_iconst (0 : Int32) dX9_wear_24 rfl ?_
      exact g_iret dX9_wear_25 rfl rfl ⟨_, rfl, h⟩
set_option maxRecDepth 20000 in
set_option maxHeartbeats 4000000 in
theorem bl_X9_wear_1 {l : Launch} {D : gD} {d : Nat} {q : Int32 → gMem → Prop} {Γ : gC} {r0 : Nat} {x1 : Int32} {x2 : Int32} {rs0 : Nat} {xs1 : Int32} {xs2 : Int32} {xs3 : Int32} {xs4 : Int32} {μ : gMem} (hr0 : r0 < 1) (hrs0 : rs0 < 1) (h : ∃ (d_1 : Nat) (q_2 : gMem → Prop), d_1 < d ∧ Ctr l D d_1 yX0_add cX0_add 5 none [.ref (D.2.2 0 rs0), .int xs1, .int xs2, .int xs3, .int xs4] μ (pV q_2) ∧ ∀ (μ_5 : gMem), q_2 μ_5 → ∃ j_8 : Nat, j_8 < 5 ∧ x1 = nI j_8 ∧ ((x2 = 0 ∨ x2 = 1) ∧ (∀ μ_10 : gMem, μ_10 = gsI μ_5 4 (5 * 0 + j_8) 10 x2 → q (1 : Int32) μ_10))) : pt_X9_wear_1 l D d q Γ r0 x1 x2 rs0 xs1 xs2 xs3 xs4 μ := by
  unfold pt_X9_wear_1
  obtain ⟨d_1, q_2, hd_3, hc_4, h⟩ := h
  refine g_cV ca_X9_226 ob_0 hc_4 hd_3 (by decide) hrs0 rfl rfl (by first | exact Nat.le_of_ble_eq_true rfl | decide) dX9_wear_42 (kV (fun μ_5 hq_7 => ?_))
  have h := h μ_5 hq_7
  refine g_aload_n dX9_wear_45 rfl ?_
  refine g_gfR fl_9_38 rfl hr0 dX9_wear_46 ?_
  refine g_gfR fl_9_132 rfl (by decide) dX9_wear_49 ?_
  refine g_iload_n dX9_wear_52 rfl ?_
  obtain ⟨j_8, hj_8, ej_8, h⟩ := h
  refine g_aald j_8 (by decide) hj_8 ej_8 dX9_wear_53 ?_
  have hp_9 : 5 * 0 + j_8 < 15 := by have : 0 < 3 := (by decide); omega
  refine g_iload_n dX9_wear_54 rfl ?_
  obtain ⟨hz_11, h⟩ := h
  refine g_pfI fi_9_167 hp_9 (nar_z hz_11).1 (nar_z hz_11).2 dX9_wear_55 ?_
  obtain ⟨μ_10, eμ_10⟩ : ∃ z : gMem, z = gsI μ_5 4 (5 * 0 + j_8) 10 x2 := ⟨_, rfl⟩
  have h := h μ_10 eμ_10
  refine g_mem eμ_10.symm ?_
  refine g_iconst (1 : Int32) dX9_wear_58 rfl ?_
  exact g_iret dX9_wear_59 rfl rfl ⟨_, rfl, h⟩
theorem en_X9_wear {l : Launch} {D : gD} {d : Nat} {q : Int32 → gMem → Prop} {r0 : Nat} {x1 : Int32} {x2 : Int32} {μ : gMem} (h : ∀ Γ : gC, pt_X9_wear_0 l D d q Γ r0 x1 x2 μ) : Ctr l D d yX9_wear cX9_wear 3 (some .boolean) [.ref (D.2.2 9 r0), .int x1, .int x2] μ (pI q) :=
  Ctr_of rfl (by decide) (Nat.le_of_ble_eq_true rfl) (fun Γ => g_sub [0, 1, 2] rfl (h Γ))
def pt_X9_goal_0 (l : Launch) (D : gD) (d : Nat) (q : Int32 → gMem → Prop) (Γ : gC) (r0 : Nat) (x1 : Int32) (x2 : Int32) (μ : gMem) : Prop := G l D RX9 cX9_goal 3 (some .boolean) d (pI q) Γ 0 [(0, .ref (D.2.2 9 r0)), (1, .int x1), (2, .int x2)] [] μ
set_option maxRecDepth 20000 in
set_option maxHeartbeats 4000000 in
theorem bl_X9_goal_0 {l : Launch} {D : gD} {d : Nat} {q : Int32 → gMem → Prop} {Γ : gC} {r0 : Nat} {x1 : Int32} {x2 : Int32} {μ : gMem} (hr0 : r0 < 1) (h : (1 < d) ∧ (μ.2.2 0 < 2) ∧ ((((iw x1 (0 : Int32) (μ.1 7 (μ.2.2 0) 0 - (1 : Int32))) = 0) → q (0 : Int32) μ) ∧ ((¬ (iw x1 (0 : Int32) (μ.1 7 (μ.2.2 0) 0 - (1 : Int32))) = 0) → (0 < d) ∧ ((((iw x2 (0 : Int32) (99 : Int32)) = 0) → q (0 : Int32) μ) ∧ ((¬ (iw x2 (0 : Int32) (99 : Int32)) = 0) → ∃ j_12 : Nat, j_12 < 5 ∧ x1 = nI j_12 ∧ (((¬ (μ.1 4 (5 * 0 + j_12) 0) = x2) → ∃ j_15 : Nat, j_15 < 5 ∧ x1 = nI j_15 ∧ (∃ (d_17 : Nat) (q_18 : gMem → Prop), d_17 < d ∧ Ctr l D d_17 yX0_add cX0_add 5 none [.ref (D.2.2 0 0), .int (1 : Int32), .int x1, .int (0 : Int32), .int (μ.1 4 (5 * 0 + j_15) 0)] μ (pV q_18) ∧ ∀ (μ_21 : gMem), q_18 μ_21 → ∃ j_24 : Nat, j_24 < 5 ∧ x1 = nI j_24 ∧ (∀ μ_26 : gMem, μ_26 = gsI μ_21 4 (5 * 0 + j_24) 0 x2 → q (1 : Int32) μ_26))) ∧ (((μ.1 4 (5 * 0 + j_12) 0) = x2) → q (0 : Int32) μ))))))) : pt_X9_goal_0 l D d q Γ r0 x1 x2 μ := by
  unfold pt_X9_goal_0
  refine g_aload_n dX9_goal_0 rfl ?_
  refine g_iload_n dX9_goal_1 rfl ?_
  obtain ⟨hd_1, hs_2, h⟩ := h
  refine g_cV ca_X9_121 ob_9 (c_X9_isMan (d := 1) (Nat.le_refl _) hr0 hs_2 ) hd_1 (by decide) hr0 rfl rfl (by first | exact Nat.le_of_ble_eq_true rfl | decide) dX9_goal_2 (kI (fun v_3 μ_4 hq_5 => ?_))
  obtain ⟨ev_3, eμ_4⟩ := hq_5
  subst ev_3
  refine g_mem eμ_4 ?_
  refine g_if_eq (tgt := 34) dX9_goal_5 (by decide) (fun c_6 => ?_) (fun c_6 => ?_)
  · have h := h.1 c_6
    refine g_iconst (0 : Int32) dX9_goal_34 rfl ?_
    exact g_iret dX9_goal_35 rfl rfl ⟨_, rfl, h⟩
  · have h := h.2 c_6
    refine g_iload_n dX9_goal_8 rfl ?_
    refine g_iconst (0 : Int32) dX9_goal_9 rfl ?_
    refine g_bipush (99 : Int32) dX9_goal_10 rfl ?_
    obtain ⟨hd_7, h⟩ := h
    refine g_callS ca_X9_194 (c_X9_isWithin (d := 0) (Nat.le_refl _) ) hd_7 (by decide) rfl rfl (by first | exact Nat.le_of_ble_eq_true rfl | decide) dX9_goal_12 (kI (fun v_8 μ_9 hq_10 => ?_))
    obtain ⟨ev_8, eμ_9⟩ := hq_10
    subst ev_8
    refine g_mem eμ_9 ?_
    refine g_if_eq (tgt := 34) dX9_goal_15 (by decide) (fun c_11 => ?_) (fun c_11 => ?_)
    · have h := h.1 c_11
      refine g_iconst (0 : Int32) dX9_goal_34 rfl ?_
      exact g_iret dX9_goal_35 rfl rfl ⟨_, rfl, h⟩
    · have h := h.2 c_11
      refine g_aload_n dX9_goal_18 rfl ?_
      refine g_gfR fl_9_38 rfl hr0 dX9_goal_19 ?_
      refine g_gfR fl_9_132 rfl (by decide) dX9_goal_22 ?_
      refine g_iload_n dX9_goal_25 rfl ?_
      obtain ⟨j_12, hj_12, ej_12, h⟩ := h
      refine g_aald j_12 (by decide) hj_12 ej_12 dX9_goal_26 ?_
      have hp_13 : 5 * 0 + j_12 < 15 := by have : 0 < 3 := (by decide); omega
      refine g_gfI fi_9_136 hp_13 dX9_goal_27 ?_
      refine g_iload_n dX9_goal_30 rfl ?_
      refine g_icmp_ne (tgt := 36) dX9_goal_31 (by decide) (fun c_14 => ?_) (fun c_14 => ?_)
      · have h := h.1 c_14
        refine g_aload_n dX9_goal_36 rfl ?_
        refine g_gfR fl_9_58 rfl hr0 dX9_goal_37 ?_
        refine g_iconst (1 : Int32) dX9_goal_40 rfl ?_
        refine g_iload_n dX9_goal_41 rfl ?_
        refine g_iconst (0 : Int32) dX9_goal_42 rfl ?_
        refine g_aload_n dX9_goal_43 rfl ?_
        refine g_gfR fl_9_38 rfl hr0 dX9_goal_44 ?_
        refine g_gfR fl_9_132 rfl (by decide) dX9_goal_47 ?_
        refine g_iload_n dX9_goal_50 rfl ?_
        obtain ⟨j_15, hj_15, ej_15, h⟩ := h
        refine g_aald j_15 (by decide) hj_15 ej_15 dX9_goal_51 ?_
        have hp_16 : 5 * 0 + j_15 < 15 := by have : 0 < 3 := (by decide); omega
        refine g_gfI fi_9_136 hp_16 dX9_goal_52 ?_
        obtain ⟨d_17, q_18, hd_19, hc_20, h⟩ := h
        refine g_cV ca_X9_226 ob_0 hc_20 hd_19 (by decide) (by decide) rfl rfl (by first | exact Nat.le_of_ble_eq_true rfl | decide) dX9_goal_55 (kV (fun μ_21 hq_23 => ?_))
        have h := h μ_21 hq_23
        refine g_aload_n dX9_goal_58 rfl ?_
        refine g_gfR fl_9_38 rfl hr0 dX9_goal_59 ?_
        refine g_gfR fl_9_132 rfl (by decide) dX9_goal_62 ?_
        refine g_iload_n dX9_goal_65 rfl ?_
        obtain ⟨j_24, hj_24, ej_24, h⟩ := h
        refine g_aald j_24 (by decide) hj_24 ej_24 dX9_goal_66 ?_
        have hp_25 : 5 * 0 + j_24 < 15 := by have : 0 < 3 := (by decide); omega
        refine g_iload_n dX9_goal_67 rfl ?_
        refine g_pfI fi_9_136 hp_25 rfl rfl dX9_goal_68 ?_
        obtain ⟨μ_26, eμ_26⟩ : ∃ z : gMem, z = gsI μ_21 4 (5 * 0 + j_24) 0 x2 := ⟨_, rfl⟩
        have h := h μ_26 eμ_26
        refine g_mem eμ_26.symm ?_
        refine g_iconst (1 : Int32) dX9_goal_71 rfl ?_
        exact g_iret dX9_goal_72 rfl rfl ⟨_, rfl, h⟩
      · have h := h.2 c_14
        refine g_iconst (0 : Int32) dX9_goal_34 rfl ?_
        exact g_iret dX9_goal_35 rfl rfl ⟨_, rfl, h⟩
theorem en_X9_goal {l : Launch} {D : gD} {d : Nat} {q : Int32 → gMem → Prop} {r0 : Nat} {x1 : Int32} {x2 : Int32} {μ : gMem} (h : ∀ Γ : gC, pt_X9_goal_0 l D d q Γ r0 x1 x2 μ) : Ctr l D d yX9_goal cX9_goal 3 (some .boolean) [.ref (D.2.2 9 r0), .int x1, .int x2] μ (pI q) :=
  Ctr_of rfl (by decide) (Nat.le_of_ble_eq_true rfl) (fun Γ => g_sub [0, 1, 2] rfl (h Γ))
def pt_X9_plan_0 (l : Launch) (D : gD) (d : Nat) (q : Int32 → gMem → Prop) (Γ : gC) (r0 : Nat) (x1 : Int32) (x2 : Int32) (x3 : Int32) (μ : gMem) : Prop := G l D RX9 cX9_plan 5 (some .boolean) d (pI q) Γ 0 [(0, .ref (D.2.2 9 r0)), (1, .int x1), (2, .int x2), (3, .int x3)] [] μ
set_option maxRecDepth 20000 in
set_option maxHeartbeats 4000000 in
theorem bl_X9_plan_0 {l : Launch} {D : gD} {d : Nat} {q : Int32 → gMem → Prop} {Γ : gC} {r0 : Nat} {x1 : Int32} {x2 : Int32} {x3 : Int32} {μ : gMem} (hr0 : r0 < 1) (h : (1 < d) ∧ (μ.2.2 0 < 2) ∧ ((((iw x1 (0 : Int32) (μ.1 7 (μ.2.2 0) 0 - (1 : Int32))) = 0) → q (0 : Int32) μ) ∧ ((¬ (iw x1 (0 : Int32) (μ.1 7 (μ.2.2 0) 0 - (1 : Int32))) = 0) → (1 < d) ∧ (μ.2.2 0 < 2) ∧ ((((iw x2 (0 : Int32) (μ.1 7 (μ.2.2 0) 5 - (1 : Int32))) = 0) → q (0 : Int32) μ) ∧ ((¬ (iw x2 (0 : Int32) (μ.1 7 (μ.2.2 0) 5 - (1 : Int32))) = 0) → (0 < d) ∧ (((¬ (iw x3 (0 : Int32) (9 : Int32)) = 0) → ∃ j_18 : Nat, j_18 < 5 ∧ x1 = nI j_18 ∧ (∃ j_20 : Nat, j_20 < 6 ∧ x2 = nI j_20 ∧ (∀ x4_21 : Int32, x4_21 = μ.1 331 (5 * 0 + j_18) j_20 → ((¬ x4_21 = x3) → ∃ (d_23 : Nat) (q_24 : gMem → Prop), d_23 < d ∧ Ctr l D d_23 yX0_add cX0_add 5 none [.ref (D.2.2 0 0), .int (2 : Int32), .int x1, .int x2, .int x4_21] μ (pV q_24) ∧ ∀ (μ_27 : gMem), q_24 μ_27 → ∃ j_30 : Nat, j_30 < 5 ∧ x1 = nI j_30 ∧ (∃ j_32 : Nat, j_32 < 6 ∧ x2 = nI j_32 ∧ (∀ μ_33 : gMem, μ_33 = gsI μ_27 331 (5 * 0 + j_30) j_32 x3 → q (1 : Int32) μ_33))) ∧ ((x4_21 = x3) → q (0 : Int32) μ)))) ∧ (((iw x3 (0 : Int32) (9 : Int32)) = 0) → q (0 : Int32) μ))))))) : pt_X9_plan_0 l D d q Γ r0 x1 x2 x3 μ := by
  unfold pt_X9_plan_0
  refine g_aload_n dX9_plan_0 rfl ?_
  refine g_iload_n dX9_plan_1 rfl ?_
  obtain ⟨hd_1, hs_2, h⟩ := h
  refine g_cV ca_X9_121 ob_9 (c_X9_isMan (d := 1) (Nat.le_refl _) hr0 hs_2 ) hd_1 (by decide) hr0 rfl rfl (by first | exact Nat.le_of_ble_eq_true rfl | decide) dX9_plan_2 (kI (fun v_3 μ_4 hq_5 => ?_))
  obtain ⟨ev_3, eμ_4⟩ := hq_5
  subst ev_3
  refine g_mem eμ_4 ?_
  refine g_if_eq (tgt := 26) dX9_plan_5 (by decide) (fun c_6 => ?_) (fun c_6 => ?_)
  · have h := h.1 c_6
    refine g_iconst (0 : Int32) dX9_plan_26 rfl ?_
    exact g_iret dX9_plan_27 rfl rfl ⟨_, rfl, h⟩
  · have h := h.2 c_6
    refine g_aload_n dX9_plan_8 rfl ?_
    refine g_iload_n dX9_plan_9 rfl ?_
    obtain ⟨hd_7, hs_8, h⟩ := h
    refine g_cV ca_X9_179 ob_9 (c_X9_isDeed (d := 1) (Nat.le_refl _) hr0 hs_8 ) hd_7 (by decide) hr0 rfl rfl (by first | exact Nat.le_of_ble_eq_true rfl | decide) dX9_plan_10 (kI (fun v_9 μ_10 hq_11 => ?_))
    obtain ⟨ev_9, eμ_10⟩ := hq_11
    subst ev_9
    refine g_mem eμ_10 ?_
    refine g_if_eq (tgt := 26) dX9_plan_13 (by decide) (fun c_12 => ?_) (fun c_12 => ?_)
    · have h := h.1 c_12
      refine g_iconst (0 : Int32) dX9_plan_26 rfl ?_
      exact g_iret dX9_plan_27 rfl rfl ⟨_, rfl, h⟩
    · have h := h.2 c_12
      refine g_iload_n dX9_plan_16 rfl ?_
      refine g_iconst (0 : Int32) dX9_plan_17 rfl ?_
      refine g_bipush (9 : Int32) dX9_plan_18 rfl ?_
      obtain ⟨hd_13, h⟩ := h
      refine g_callS ca_X9_194 (c_X9_isWithin (d := 0) (Nat.le_refl _) ) hd_13 (by decide) rfl rfl (by first | exact Nat.le_of_ble_eq_true rfl | decide) dX9_plan_20 (kI (fun v_14 μ_15 hq_16 => ?_))
      obtain ⟨ev_14, eμ_15⟩ := hq_16
      subst ev_14
      refine g_mem eμ_15 ?_
      refine g_if_ne (tgt := 28) dX9_plan_23 (by decide) (fun c_17 => ?_) (fun c_17 => ?_)
      · have h := h.1 c_17
        refine g_aload_n dX9_plan_28 rfl ?_
        refine g_gfR fl_9_38 rfl hr0 dX9_plan_29 ?_
        refine g_gfR fl_9_132 rfl (by decide) dX9_plan_32 ?_
        refine g_iload_n dX9_plan_35 rfl ?_
        obtain ⟨j_18, hj_18, ej_18, h⟩ := h
        refine g_aald j_18 (by decide) hj_18 ej_18 dX9_plan_36 ?_
        have hp_19 : 5 * 0 + j_18 < 15 := by have : 0 < 3 := (by decide); omega
        refine g_gfR fl_9_191 rfl hp_19 dX9_plan_37 ?_
        refine g_iload_n dX9_plan_40 rfl ?_
        obtain ⟨j_20, hj_20, ej_20, h⟩ := h
        refine g_iald j_20 hp_19 rfl hj_20 (by decide) ej_20 dX9_plan_41 ?_
        refine g_istore dX9_plan_42 (by decide) (fun x4_21 ex4_21 => g_sub (lv' := [(0, .ref (D.2.2 9 r0)), (1, .int x1), (2, .int x2), (3, .int x3), (4, .int x4_21)]) [1, 2, 3, 4, 0] rfl ?_)
        have h := h x4_21 ex4_21
        refine g_iload dX9_plan_44 rfl ?_
        refine g_iload_n dX9_plan_46 rfl ?_
        refine g_icmp_ne (tgt := 52) dX9_plan_47 (by decide) (fun c_22 => ?_) (fun c_22 => ?_)
        · have h := h.1 c_22
          refine g_aload_n dX9_plan_52 rfl ?_
          refine g_gfR fl_9_58 rfl hr0 dX9_plan_53 ?_
          refine g_iconst (2 : Int32) dX9_plan_56 rfl ?_
          refine g_iload_n dX9_plan_57 rfl ?_
          refine g_iload_n dX9_plan_58 rfl ?_
          refine g_iload dX9_plan_59 rfl ?_
          obtain ⟨d_23, q_24, hd_25, hc_26, h⟩ := h
          refine g_cV ca_X9_226 ob_0 hc_26 hd_25 (by decide) (by decide) rfl rfl (by first | exact Nat.le_of_ble_eq_true rfl | decide) dX9_plan_61 (kV (fun μ_27 hq_29 => ?_))
          have h := h μ_27 hq_29
          refine g_aload_n dX9_plan_64 rfl ?_
          refine g_gfR fl_9_38 rfl hr0 dX9_plan_65 ?_
          refine g_gfR fl_9_132 rfl (by decide) dX9_plan_68 ?_
          refine g_iload_n dX9_plan_71 rfl ?_
          obtain ⟨j_30, hj_30, ej_30, h⟩ := h
          refine g_aald j_30 (by decide) hj_30 ej_30 dX9_plan_72 ?_
          have hp_31 : 5 * 0 + j_30 < 15 := by have : 0 < 3 := (by decide); omega
          refine g_gfR fl_9_191 rfl hp_31 dX9_plan_73 ?_
          refine g_iload_n dX9_plan_76 rfl ?_
          refine g_iload_n dX9_plan_77 rfl ?_
          obtain ⟨j_32, hj_32, ej_32, h⟩ := h
          refine g_iast j_32 hp_31 rfl hj_32 (by decide) ej_32 dX9_plan_78 ?_
          obtain ⟨μ_33, eμ_33⟩ : ∃ z : gMem, z = gsI μ_27 331 (5 * 0 + j_30) j_32 x3 := ⟨_, rfl⟩
          have h := h μ_33 eμ_33
          refine g_mem eμ_33.symm ?_
          refine g_iconst (1 : Int32) dX9_plan_79 rfl ?_
          exact g_iret dX9_plan_80 rfl rfl ⟨_, rfl, h⟩
        · have h := h.2 c_22
          refine g_iconst (0 : Int32) dX9_plan_50 rfl ?_
          exact g_iret dX9_plan_51 rfl rfl ⟨_, rfl, h⟩
      · have h := h.2 c_17
        refine g_iconst (0 : Int32) dX9_plan_26 rfl ?_
        exact g_iret dX9_plan_27 rfl rfl ⟨_, rfl, h⟩
theorem en_X9_plan {l : Launch} {D : gD} {d : Nat} {q : Int32 → gMem → Prop} {r0 : Nat} {x1 : Int32} {x2 : Int32} {x3 : Int32} {μ : gMem} (h : ∀ Γ : gC, pt_X9_plan_0 l D d q Γ r0 x1 x2 x3 μ) : Ctr l D d yX9_plan cX9_plan 5 (some .boolean) [.ref (D.2.2 9 r0), .int x1, .int x2, .int x3] μ (pI q) :=
  Ctr_of rfl (by decide) (Nat.le_of_ble_eq_true rfl) (fun Γ => g_sub [0, 1, 2, 3] rfl (h Γ))
def pt_X9_lend_0 (l : Launch) (D : gD) (d : Nat) (q : Int32 → gMem → Prop) (Γ : gC) (r0 : Nat) (x1 : Int32) (x2 : Int32) (μ : gMem) : Prop := G l D RX9 cX9_lend 4 (some .int) d (pI q) Γ 0 [(0, .ref (D.2.2 9 r0)), (1, .int x1), (2, .int x2)] [] μ
set_option maxRecDepth 20000 in
set_option maxHeartbeats 4000000 in
theorem bl_X9_lend_0 {l : Launch} {D : gD} {d : Nat} {q : Int32 → gMem → Prop} {Γ : gC} {r0 : Nat} {x1 : Int32} {x2 : Int32} {μ : gMem} (hr0 : r0 < 1) (h : (1 < d) ∧ (μ.2.2 0 < 2) ∧ ((((iw x1 (0 : Int32) (μ.1 7 (μ.2.2 0) 0 - (1 : Int32))) = 0) → q (-1 : Int32) μ) ∧ ((¬ (iw x1 (0 : Int32) (μ.1 7 (μ.2.2 0) 0 - (1 : Int32))) = 0) → (0 < d) ∧ (((¬ (iw x2 (1 : Int32) (99 : Int32)) = 0) → ∃ j_12 : Nat, j_12 < 5 ∧ x1 = nI j_12 ∧ (((((μ.1 4 (5 * 0 + j_12) 9) + x2) ≤ (999 : Int32)) → ∃ (d_15 : Nat) (q_16 : gMem → Prop), d_15 < d ∧ Ctr l D d_15 yX0_add cX0_add 5 none [.ref (D.2.2 0 0), .int (3 : Int32), .int x1, .int (0 : Int32), .int (μ.1 4 (5 * 0 + j_12) 9)] μ (pV q_16) ∧ ∀ (μ_19 : gMem), q_16 μ_19 → ∀ μ_22 : gMem, μ_22 = gsI μ_19 4 (5 * 0 + j_12) 9 ((μ_19.1 4 (5 * 0 + j_12) 9) + x2) → q (μ_22.1 4 (5 * 0 + j_12) 9) μ_22) ∧ ((¬ ((μ.1 4 (5 * 0 + j_12) 9) + x2) ≤ (999 : Int32)) → q (-1 : Int32) μ))) ∧ (((iw x2 (1 : Int32) (99 : Int32)) = 0) → q (-1 : Int32) μ))))) : pt_X9_lend_0 l D d q Γ r0 x1 x2 μ := by
  unfold pt_X9_lend_0
  refine g_aload_n dX9_lend_0 rfl ?_
  refine g_iload_n dX9_lend_1 rfl ?_
  obtain ⟨hd_1, hs_2, h⟩ := h
  refine g_cV ca_X9_121 ob_9 (c_X9_isMan (d := 1) (Nat.le_refl _) hr0 hs_2 ) hd_1 (by decide) hr0 rfl rfl (by first | exact Nat.le_of_ble_eq_true rfl | decide) dX9_lend_2 (kI (fun v_3 μ_4 hq_5 => ?_))
  obtain ⟨ev_3, eμ_4⟩ := hq_5
  subst ev_3
  refine g_mem eμ_4 ?_
  refine g_if_eq (tgt := 18) dX9_lend_5 (by decide) (fun c_6 => ?_) (fun c_6 => ?_)
  · have h := h.1 c_6
    refine g_iconst (-1 : Int32) dX9_lend_18 rfl ?_
    exact g_iret dX9_lend_19 rfl rfl ⟨_, rfl, h⟩
  · have h := h.2 c_6
    refine g_iload_n dX9_lend_8 rfl ?_
    refine g_iconst (1 : Int32) dX9_lend_9 rfl ?_
    refine g_bipush (99 : Int32) dX9_lend_10 rfl ?_
    obtain ⟨hd_7, h⟩ := h
    refine g_callS ca_X9_194 (c_X9_isWithin (d := 0) (Nat.le_refl _) ) hd_7 (by decide) rfl rfl (by first | exact Nat.le_of_ble_eq_true rfl | decide) dX9_lend_12 (kI (fun v_8 μ_9 hq_10 => ?_))
    obtain ⟨ev_8, eμ_9⟩ := hq_10
    subst ev_8
    refine g_mem eμ_9 ?_
    refine g_if_ne (tgt := 20) dX9_lend_15 (by decide) (fun c_11 => ?_) (fun c_11 => ?_)
    · have h := h.1 c_11
      refine g_aload_n dX9_lend_20 rfl ?_
      refine g_gfR fl_9_38 rfl hr0 dX9_lend_21 ?_
      refine g_gfR fl_9_132 rfl (by decide) dX9_lend_24 ?_
      refine g_iload_n dX9_lend_27 rfl ?_
      obtain ⟨j_12, hj_12, ej_12, h⟩ := h
      refine g_aald j_12 (by decide) hj_12 ej_12 dX9_lend_28 ?_
      have hp_13 : 5 * 0 + j_12 < 15 := by have : 0 < 3 := (by decide); omega
      refine g_astore_n dX9_lend_29 (by decide) (g_sub (lv' := [(0, .ref (D.2.2 9 r0)), (1, .int x1), (2, .int x2), (3, .ref (D.2.2 4 (5 * 0 + j_12)))]) [1, 2, 3, 0] rfl ?_)
      refine g_aload_n dX9_lend_30 rfl ?_
      refine g_gfI fi_9_170 hp_13 dX9_lend_31 ?_
      refine g_iload_n dX9_lend_34 rfl ?_
      refine g_iadd dX9_lend_35 ?_
      refine g_sipush (999 : Int32) dX9_lend_36 rfl ?_
      refine g_icmp_le (tgt := 44) dX9_lend_39 (by decide) (fun c_14 => ?_) (fun c_14 => ?_)
      · have h := h.1 c_14
        refine g_aload_n dX9_lend_44 rfl ?_
        refine g_gfR fl_9_58 rfl hr0 dX9_lend_45 ?_
        refine g_iconst (3 : Int32) dX9_lend_48 rfl ?_
        refine g_iload_n dX9_lend_49 rfl ?_
        refine g_iconst (0 : Int32) dX9_lend_50 rfl ?_
        refine g_aload_n dX9_lend_51 rfl ?_
        refine g_gfI fi_9_170 hp_13 dX9_lend_52 ?_
        obtain ⟨d_15, q_16, hd_17, hc_18, h⟩ := h
        refine g_cV ca_X9_226 ob_0 hc_18 hd_17 (by decide) (by decide) rfl rfl (by first | exact Nat.le_of_ble_eq_true rfl | decide) dX9_lend_55 (kV (fun μ_19 hq_21 => ?_))
        have h := h μ_19 hq_21
        refine g_aload_n dX9_lend_58 rfl ?_
        refine g_dup dX9_lend_59 rfl ?_
        refine g_gfI fi_9_170 hp_13 dX9_lend_60 ?_
        refine g_iload_n dX9_lend_63 rfl ?_
        refine g_iadd dX9_lend_64 ?_
        refine g_pfI fi_9_170 hp_13 rfl rfl dX9_lend_65 ?_
        obtain ⟨μ_22, eμ_22⟩ : ∃ z : gMem, z = gsI μ_19 4 (5 * 0 + j_12) 9 ((μ_19.1 4 (5 * 0 + j_12) 9) + x2) := ⟨_, rfl⟩
        have h := h μ_22 eμ_22
        refine g_mem eμ_22.symm ?_
        refine g_aload_n dX9_lend_68 rfl ?_
        refine g_gfI fi_9_170 hp_13 dX9_lend_69 ?_
        exact g_iret dX9_lend_72 rfl rfl ⟨_, rfl, h⟩
      · have h := h.2 c_14
        refine g_iconst (-1 : Int32) dX9_lend_42 rfl ?_
        exact g_iret dX9_lend_43 rfl rfl ⟨_, rfl, h⟩
    · have h := h.2 c_11
      refine g_iconst (-1 : Int32) dX9_lend_18 rfl ?_
      exact g_iret dX9_lend_19 rfl rfl ⟨_, rfl, h⟩
theorem en_X9_lend {l : Launch} {D : gD} {d : Nat} {q : Int32 → gMem → Prop} {r0 : Nat} {x1 : Int32} {x2 : Int32} {μ : gMem} (h : ∀ Γ : gC, pt_X9_lend_0 l D d q Γ r0 x1 x2 μ) : Ctr l D d yX9_lend cX9_lend 4 (some .int) [.ref (D.2.2 9 r0), .int x1, .int x2] μ (pI q) :=
  Ctr_of rfl (by decide) (Nat.le_of_ble_eq_true rfl) (fun Γ => g_sub [0, 1, 2] rfl (h Γ))
def pt_X9_go_0 (l : Launch) (D : gD) (d : Nat) (q : Int32 → gMem → Prop) (Γ : gC) (r0 : Nat) (x1 : Int32) (μ : gMem) : Prop := G l D RX9 cX9_go 3 (some .int) d (pI q) Γ 0 [(0, .ref (D.2.2 9 r0)), (1, .int x1)] [] μ
def pt_X9_go_1 (l : Launch) (D : gD) (d : Nat) (q : Int32 → gMem → Prop) (Γ : gC) (r0 : Nat) (x1 : Int32) (x2 : Int32) (μ : gMem) : Prop := G l D RX9 cX9_go 3 (some .int) d (pI q) Γ 29 [(0, .ref (D.2.2 9 r0)), (1, .int x1), (2, .int x2)] [] μ
def pt_X9_go_2 (l : Launch) (D : gD) (d : Nat) (q : Int32 → gMem → Prop) (Γ : gC) (r0 : Nat) (μ : gMem) : Prop := G l D RX9 cX9_go 3 (some .int) d (pI q) Γ 77 [(0, .ref (D.2.2 9 r0))] [] μ
set_option maxRecDepth 20000 in
set_option maxHeartbeats 4000000 in
theorem bl_X9_go_0 {l : Launch} {D : gD} {d : Nat} {q : Int32 → gMem → Prop} {Γ : gC} {r0 : Nat} {x1 : Int32} {μ : gMem} (hr0 : r0 < 1) (h : (0 < d) ∧ ((((iw x1 (0 : Int32) (99 : Int32)) = 0) → q (-1 : Int32) μ) ∧ ((¬ (iw x1 (0 : Int32) (99 : Int32)) = 0) → ((((μ.1 8 0 1) + x1) ≤ (9900 : Int32)) → ∀ x2_7 : Int32, x2_7 = (0 : Int32) → pt_X9_go_1 l D d q Γ r0 x1 x2_7 μ) ∧ ((¬ ((μ.1 8 0 1) + x1) ≤ (9900 : Int32)) → q (-1 : Int32) μ)))) : pt_X9_go_0 l D d q Γ r0 x1 μ := by
  unfold pt_X9_go_0
  refine g_iload_n dX9_go_0 rfl ?_
  refine g_iconst (0 : Int32) dX9_go_1 rfl ?_
  refine g_bipush (99 : Int32) dX9_go_2 rfl ?_
  obtain ⟨hd_1, h⟩ := h
  refine g_callS ca_X9_194 (c_X9_isWithin (d := 0) (Nat.le_refl _) ) hd_1 (by decide) rfl rfl (by first | exact Nat.le_of_ble_eq_true rfl | decide) dX9_go_4 (kI (fun v_2 μ_3 hq_4 => ?_))
  obtain ⟨ev_2, eμ_3⟩ := hq_4
  subst ev_2
  refine g_mem eμ_3 ?_
  refine g_if_eq (tgt := 25) dX9_go_7 (by decide) (fun c_5 => ?_) (fun c_5 => ?_)
  · have h := h.1 c_5
    refine g_iconst (-1 : Int32) dX9_go_25 rfl ?_
    exact g_iret dX9_go_26 rfl rfl ⟨_, rfl, h⟩
  · have h := h.2 c_5
    refine g_aload_n dX9_go_10 rfl ?_
    refine g_gfR fl_9_38 rfl hr0 dX9_go_11 ?_
    refine g_gfI fi_9_230 (by decide) dX9_go_14 ?_
    refine g_iload_n dX9_go_17 rfl ?_
    refine g_iadd dX9_go_18 ?_
    refine g_sipush (9900 : Int32) dX9_go_19 rfl ?_
    refine g_icmp_le (tgt := 27) dX9_go_22 (by decide) (fun c_6 => ?_) (fun c_6 => ?_)
    · have h := h.1 c_6
      refine g_iconst (0 : Int32) dX9_go_27 rfl ?_
      refine g_istore_n dX9_go_28 (by decide) (fun x2_7 ex2_7 => g_sub (lv' := [(0, .ref (D.2.2 9 r0)), (1, .int x1), (2, .int x2_7)]) [1, 2, 0] rfl ?_)
      have h := h x2_7 ex2_7
      exact g_sub [0, 1, 2] rfl h
    · have h := h.2 c_6
      refine g_iconst (-1 : Int32) dX9_go_25 rfl ?_
      exact g_iret dX9_go_26 rfl rfl ⟨_, rfl, h⟩
set_option maxRecDepth 20000 in
set_option maxHeartbeats 4000000 in
theorem bl_X9_go_1 {l : Launch} {D : gD} {d : Nat} {q : Int32 → gMem → Prop} {Γ : gC} {r0 : Nat} {x1 : Int32} {x2 : Int32} {μ : gMem} (hr0 : r0 < 1) (h : ((x1 ≤ x2) → ((x1 ≤ 0) → pt_X9_go_2 l D d q Γ r0 μ) ∧ ((¬ x1 ≤ 0) → ∀ μ_3 : gMem, μ_3 = gsI μ 0 0 4 (0 : Int32) → pt_X9_go_2 l D d q Γ r0 μ_3)) ∧ ((¬ x1 ≤ x2) → (μ.2.2 0 < 2) ∧ ((μ.2.2 0 < 2) ∧ (∃ (d_6 : Nat) (q_7 : Int32 → gMem → Prop), d_6 < d ∧ Ctr l D d_6 yX8_drawsWet cX8_drawsWet 2 (some .boolean) [.ref (D.2.2 8 0), .int (μ.1 7 (μ.2.2 0) 16)] μ (pI q_7) ∧ ∀ (v_11 : Int32) (μ_10 : gMem), q_7 v_11 μ_10 → ∃ (d_13 : Nat) (q_14 : gMem → Prop), d_13 < d ∧ Ctr l D d_13 yX8_passDay cX8_passDay 4 none [.ref (D.2.2 8 0), .ref (D.2.2 7 (μ.2.2 0)), .int v_11] μ_10 (pV q_14) ∧ ∀ (μ_17 : gMem), q_14 μ_17 → ∀ x2_20 : Int32, x2_20 = x2 + (1 : Int32) → pt_X9_go_1 l D d q Γ r0 x1 x2_20 μ_17)))) : pt_X9_go_1 l D d q Γ r0 x1 x2 μ := by
  unfold pt_X9_go_1
  refine g_iload_n dX9_go_29 rfl ?_
  refine g_iload_n dX9_go_30 rfl ?_
  refine g_icmp_ge (tgt := 65) dX9_go_31 (by decide) (fun c_1 => ?_) (fun c_1 => ?_)
  · have h := h.1 c_1
    refine g_iload_n dX9_go_65 rfl ?_
    refine g_if_le (tgt := 77) dX9_go_66 (by decide) (fun c_2 => ?_) (fun c_2 => ?_)
    · have h := h.1 c_2
      exact g_sub [0] rfl h
    · have h := h.2 c_2
      refine g_aload_n dX9_go_69 rfl ?_
      refine g_gfR fl_9_58 rfl hr0 dX9_go_70 ?_
      refine g_iconst (0 : Int32) dX9_go_73 rfl ?_
      refine g_pfI fi_9_96 (by decide) rfl rfl dX9_go_74 ?_
      obtain ⟨μ_3, eμ_3⟩ : ∃ z : gMem, z = gsI μ 0 0 4 (0 : Int32) := ⟨_, rfl⟩
      have h := h μ_3 eμ_3
      refine g_mem eμ_3.symm ?_
      exact g_sub [0] rfl h
  · have h := h.2 c_1
    refine g_aload_n dX9_go_34 rfl ?_
    refine g_gfR fl_9_38 rfl hr0 dX9_go_35 ?_
    refine g_aload_n dX9_go_38 rfl ?_
    obtain ⟨hR_4, h⟩ := h
    refine g_gfR fl_9_28 rfl hr0 dX9_go_39 ?_
    refine g_aload_n dX9_go_42 rfl ?_
    refine g_gfR fl_9_38 rfl hr0 dX9_go_43 ?_
    refine g_aload_n dX9_go_46 rfl ?_
    obtain ⟨hR_5, h⟩ := h
    refine g_gfR fl_9_28 rfl hr0 dX9_go_47 ?_
    refine g_gfI fi_9_233 hR_5 dX9_go_50 ?_
    obtain ⟨d_6, q_7, hd_8, hc_9, h⟩ := h
    refine g_cV ca_X9_236 ob_8 hc_9 hd_8 (by decide) (by decide) rfl rfl (by first | exact Nat.le_of_ble_eq_true rfl | decide) dX9_go_53 (kI (fun v_11 μ_10 hq_12 => ?_))
    have h := h v_11 μ_10 hq_12
    obtain ⟨d_13, q_14, hd_15, hc_16, h⟩ := h
    refine g_cV ca_X9_239 ob_8 hc_16 hd_15 (by decide) (by decide) rfl rfl (by first | exact Nat.le_of_ble_eq_true rfl | decide) dX9_go_56 (kV (fun μ_17 hq_19 => ?_))
    have h := h μ_17 hq_19
    refine g_iinc dX9_go_59 rfl (by decide) (fun x2_20 ex2_20 => g_sub (lv' := [(0, .ref (D.2.2 9 r0)), (1, .int x1), (2, .int x2_20)]) [1, 2, 0] rfl ?_)
    have h := h x2_20 ex2_20
    refine g_goto (tgt := 29) dX9_go_62 (by decide) ?_
    exact g_sub [0, 1, 2] rfl h
set_option maxRecDepth 20000 in
set_option maxHeartbeats 4000000 in
theorem bl_X9_go_2 {l : Launch} {D : gD} {d : Nat} {q : Int32 → gMem → Prop} {Γ : gC} {r0 : Nat} {μ : gMem} (hr0 : r0 < 1) (h : q (μ.1 8 0 1) μ) : pt_X9_go_2 l D d q Γ r0 μ := by
  unfold pt_X9_go_2
  refine g_aload_n dX9_go_77 rfl ?_
  refine g_gfR fl_9_38 rfl hr0 dX9_go_78 ?_
  refine g_gfI fi_9_230 (by decide) dX9_go_81 ?_
  exact g_iret dX9_go_84 rfl rfl ⟨_, rfl, h⟩
theorem en_X9_go {l : Launch} {D : gD} {d : Nat} {q : Int32 → gMem → Prop} {r0 : Nat} {x1 : Int32} {μ : gMem} (h : ∀ Γ : gC, pt_X9_go_0 l D d q Γ r0 x1 μ) : Ctr l D d yX9_go cX9_go 3 (some .int) [.ref (D.2.2 9 r0), .int x1] μ (pI q) :=
  Ctr_of rfl (by decide) (Nat.le_of_ble_eq_true rfl) (fun Γ => g_sub [0, 1] rfl (h Γ))
def pt_X9_ahead_0 (l : Launch) (D : gD) (d : Nat) (q : Int32 → gMem → Prop) (Γ : gC) (r0 : Nat) (x1 : Int32) (x2 : Int32) (x3 : Int32) (μ : gMem) : Prop := G l D RX9 cX9_ahead 5 (some .int) d (pI q) Γ 0 [(0, .ref (D.2.2 9 r0)), (1, .int x1), (2, .int x2), (3, .int x3)] [] μ
set_option maxRecDepth 20000 in
set_option maxHeartbeats 4000000 in
theorem bl_X9_ahead_0 {l : Launch} {D : gD} {d : Nat} {q : Int32 → gMem → Prop} {Γ : gC} {r0 : Nat} {x1 : Int32} {x2 : Int32} {x3 : Int32} {μ : gMem} (hr0 : r0 < 1) (h : (1 < d) ∧ (μ.2.2 0 < 2) ∧ ((((iw x1 (0 : Int32) (μ.1 7 (μ.2.2 0) 0 - (1 : Int32))) = 0) → q (-1 : Int32) μ) ∧ ((¬ (iw x1 (0 : Int32) (μ.1 7 (μ.2.2 0) 0 - (1 : Int32))) = 0) → (0 < d) ∧ ((((iw x2 (0 : Int32) (60 : Int32)) = 0) → q (-1 : Int32) μ) ∧ ((¬ (iw x2 (0 : Int32) (60 : Int32)) = 0) → (0 < d) ∧ (((¬ (iw x3 (0 : Int32) (3 : Int32)) = 0) → ∃ (d_17 : Nat) (q_18 : Nat → gMem → Prop), d_17 < d ∧ Ctr l D d_17 yX9_lookAhead cX9_lookAhead 2 (some (.object "WristGoal$Person")) [.ref (D.2.2 9 r0), .int x1] μ (pR D 4 q_18) ∧ ∀ (v_22 : Nat) (μ_21 : gMem), v_22 < 15 → q_18 v_22 μ_21 → ∃ (d_24 : Nat) (q_25 : gMem → Prop), d_24 < d ∧ Ctr l D d_24 yX9_passAsItGoes cX9_passAsItGoes 4 none [.ref (D.2.2 9 r0), .int x2] μ_21 (pV q_25) ∧ ∀ (μ_28 : gMem), q_25 μ_28 → (x3 = (0 : Int32) → ∃ j_32 : Nat, j_32 < 5 ∧ x1 = nI j_32 ∧ (q ((μ_28.1 4 v_22 6) - (μ_28.1 4 (5 * 0 + j_32) 6)) μ_28)) ∧ (x3 = (1 : Int32) → ∃ j_34 : Nat, j_34 < 5 ∧ x1 = nI j_34 ∧ (q ((μ_28.1 4 v_22 5) - (μ_28.1 4 (5 * 0 + j_34) 5)) μ_28)) ∧ (x3 = (2 : Int32) → q (μ_28.1 4 v_22 2) μ_28) ∧ ((¬ x3 = (0 : Int32) ∧ ¬ x3 = (1 : Int32) ∧ ¬ x3 = (2 : Int32)) → q (μ_28.1 4 v_22 1) μ_28)) ∧ (((iw x3 (0 : Int32) (3 : Int32)) = 0) → q (-1 : Int32) μ))))))) : pt_X9_ahead_0 l D d q Γ r0 x1 x2 x3 μ := by
  unfold pt_X9_ahead_0
  refine g_aload_n dX9_ahead_0 rfl ?_
  refine g_iload_n dX9_ahead_1 rfl ?_
  obtain ⟨hd_1, hs_2, h⟩ := h
  refine g_cV ca_X9_121 ob_9 (c_X9_isMan (d := 1) (Nat.le_refl _) hr0 hs_2 ) hd_1 (by decide) hr0 rfl rfl (by first | exact Nat.le_of_ble_eq_true rfl | decide) dX9_ahead_2 (kI (fun v_3 μ_4 hq_5 => ?_))
  obtain ⟨ev_3, eμ_4⟩ := hq_5
  subst ev_3
  refine g_mem eμ_4 ?_
  refine g_if_eq (tgt := 27) dX9_ahead_5 (by decide) (fun c_6 => ?_) (fun c_6 => ?_)
  · have h := h.1 c_6
    refine g_iconst (-1 : Int32) dX9_ahead_27 rfl ?_
    exact g_iret dX9_ahead_28 rfl rfl ⟨_, rfl, h⟩
  · have h := h.2 c_6
    refine g_iload_n dX9_ahead_8 rfl ?_
    refine g_iconst (0 : Int32) dX9_ahead_9 rfl ?_
    refine g_bipush (60 : Int32) dX9_ahead_10 rfl ?_
    obtain ⟨hd_7, h⟩ := h
    refine g_callS ca_X9_194 (c_X9_isWithin (d := 0) (Nat.le_refl _) ) hd_7 (by decide) rfl rfl (by first | exact Nat.le_of_ble_eq_true rfl | decide) dX9_ahead_12 (kI (fun v_8 μ_9 hq_10 => ?_))
    obtain ⟨ev_8, eμ_9⟩ := hq_10
    subst ev_8
    refine g_mem eμ_9 ?_
    refine g_if_eq (tgt := 27) dX9_ahead_15 (by decide) (fun c_11 => ?_) (fun c_11 => ?_)
    · have h := h.1 c_11
      refine g_iconst (-1 : Int32) dX9_ahead_27 rfl ?_
      exact g_iret dX9_ahead_28 rfl rfl ⟨_, rfl, h⟩
    · have h := h.2 c_11
      refine g_iload_n dX9_ahead_18 rfl ?_
      refine g_iconst (0 : Int32) dX9_ahead_19 rfl ?_
      refine g_iconst (3 : Int32) dX9_ahead_20 rfl ?_
      obtain ⟨hd_12, h⟩ := h
      refine g_callS ca_X9_194 (c_X9_isWithin (d := 0) (Nat.le_refl _) ) hd_12 (by decide) rfl rfl (by first | exact Nat.le_of_ble_eq_true rfl | decide) dX9_ahead_21 (kI (fun v_13 μ_14 hq_15 => ?_))
      obtain ⟨ev_13, eμ_14⟩ := hq_15
      subst ev_13
      refine g_mem eμ_14 ?_
      refine g_if_ne (tgt := 29) dX9_ahead_24 (by decide) (fun c_16 => ?_) (fun c_16 => ?_)
      · have h := h.1 c_16
        refine g_aload_n dX9_ahead_29 rfl ?_
        refine g_iload_n dX9_ahead_30 rfl ?_
        obtain ⟨d_17, q_18, hd_19, hc_20, h⟩ := h
        refine g_cV ca_X9_243 ob_9 hc_20 hd_19 (by decide) hr0 rfl rfl (by first | exact Nat.le_of_ble_eq_true rfl | decide) dX9_ahead_31 (kR (fun v_22 μ_21 hv_22 hq_23 => ?_))
        have h := h v_22 μ_21 hv_22 hq_23
        refine g_astore dX9_ahead_34 (by decide) (g_sub (lv' := [(0, .ref (D.2.2 9 r0)), (1, .int x1), (2, .int x2), (3, .int x3), (4, .ref (D.2.2 4 v_22))]) [1, 2, 3, 4, 0] rfl ?_)
        refine g_aload_n dX9_ahead_36 rfl ?_
        refine g_iload_n dX9_ahead_37 rfl ?_
        obtain ⟨d_24, q_25, hd_26, hc_27, h⟩ := h
        refine g_cV ca_X9_247 ob_9 hc_27 hd_26 (by decide) hr0 rfl rfl (by first | exact Nat.le_of_ble_eq_true rfl | decide) dX9_ahead_38 (kV (fun μ_28 hq_30 => ?_))
        have h := h μ_28 hq_30
        refine g_iload_n dX9_ahead_41 rfl ?_
        by_cases c_31_0 : x3 = (0 : Int32)
        · refine g_tableIn (off := 26) (tgt := 68) dX9_ahead_42 (by rw [c_31_0]; decide) (by rw [c_31_0]; decide) (by rw [c_31_0]; rfl) (by decide) ?_
          have h := h.1 c_31_0
          refine g_aload dX9_ahead_68 rfl ?_
          refine g_gfI fi_9_159 hv_22 dX9_ahead_70 ?_
          refine g_aload_n dX9_ahead_73 rfl ?_
          refine g_gfR fl_9_38 rfl hr0 dX9_ahead_74 ?_
          refine g_gfR fl_9_132 rfl (by decide) dX9_ahead_77 ?_
          refine g_iload_n dX9_ahead_80 rfl ?_
          obtain ⟨j_32, hj_32, ej_32, h⟩ := h
          refine g_aald j_32 (by decide) hj_32 ej_32 dX9_ahead_81 ?_
          have hp_33 : 5 * 0 + j_32 < 15 := by have : 0 < 3 := (by decide); omega
          refine g_gfI fi_9_159 hp_33 dX9_ahead_82 ?_
          refine g_isub dX9_ahead_85 ?_
          exact g_iret dX9_ahead_86 rfl rfl ⟨_, rfl, h⟩
        by_cases c_31_1 : x3 = (1 : Int32)
        · refine g_tableIn (off := 45) (tgt := 87) dX9_ahead_42 (by rw [c_31_1]; decide) (by rw [c_31_1]; decide) (by rw [c_31_1]; rfl) (by decide) ?_
          have h := h.2.1 c_31_1
          refine g_aload dX9_ahead_87 rfl ?_
          refine g_gfI fi_9_156 hv_22 dX9_ahead_89 ?_
          refine g_aload_n dX9_ahead_92 rfl ?_
          refine g_gfR fl_9_38 rfl hr0 dX9_ahead_93 ?_
          refine g_gfR fl_9_132 rfl (by decide) dX9_ahead_96 ?_
          refine g_iload_n dX9_ahead_99 rfl ?_
          obtain ⟨j_34, hj_34, ej_34, h⟩ := h
          refine g_aald j_34 (by decide) hj_34 ej_34 dX9_ahead_100 ?_
          have hp_35 : 5 * 0 + j_34 < 15 := by have : 0 < 3 := (by decide); omega
          refine g_gfI fi_9_156 hp_35 dX9_ahead_101 ?_
          refine g_isub dX9_ahead_104 ?_
          exact g_iret dX9_ahead_105 rfl rfl ⟨_, rfl, h⟩
        by_cases c_31_2 : x3 = (2 : Int32)
        · refine g_tableIn (off := 64) (tgt := 106) dX9_ahead_42 (by rw [c_31_2]; decide) (by rw [c_31_2]; decide) (by rw [c_31_2]; rfl) (by decide) ?_
          have h := h.2.2.1 c_31_2
          refine g_aload dX9_ahead_106 rfl ?_
          refine g_gfI fi_9_147 hv_22 dX9_ahead_108 ?_
          exact g_iret dX9_ahead_111 rfl rfl ⟨_, rfl, h⟩
        have c_31_o : (x3).toInt < 0 ∨ 2 < (x3).toInt := by
          have := lv_neT c_31_0 (a := 0) rfl
          have := lv_neT c_31_1 (a := 1) rfl
          have := lv_neT c_31_2 (a := 2) rfl
          omega
        refine g_tableOut (tgt := 112) dX9_ahead_42 c_31_o (by decide) ?_
        have h := h.2.2.2 ⟨c_31_0, c_31_1, c_31_2⟩
        refine g_aload dX9_ahead_112 rfl ?_
        refine g_gfI fi_9_141 hv_22 dX9_ahead_114 ?_
        exact g_iret dX9_ahead_117 rfl rfl ⟨_, rfl, h⟩
      · have h := h.2 c_16
        refine g_iconst (-1 : Int32) dX9_ahead_27 rfl ?_
        exact g_iret dX9_ahead_28 rfl rfl ⟨_, rfl, h⟩
theorem en_X9_ahead {l : Launch} {D : gD} {d : Nat} {q : Int32 → gMem → Prop} {r0 : Nat} {x1 : Int32} {x2 : Int32} {x3 : Int32} {μ : gMem} (h : ∀ Γ : gC, pt_X9_ahead_0 l D d q Γ r0 x1 x2 x3 μ) : Ctr l D d yX9_ahead cX9_ahead 5 (some .int) [.ref (D.2.2 9 r0), .int x1, .int x2, .int x3] μ (pI q) :=
  Ctr_of rfl (by decide) (Nat.le_of_ble_eq_true rfl) (fun Γ => g_sub [0, 1, 2, 3] rfl (h Γ))
def pt_X9_reaches_0 (l : Launch) (D : gD) (d : Nat) (q : Int32 → gMem → Prop) (Γ : gC) (r0 : Nat) (x1 : Int32) (x2 : Int32) (μ : gMem) : Prop := G l D RX9 cX9_reaches 5 (some .int) d (pI q) Γ 0 [(0, .ref (D.2.2 9 r0)), (1, .int x1), (2, .int x2)] [] μ
def pt_X9_reaches_1 (l : Launch) (D : gD) (d : Nat) (q : Int32 → gMem → Prop) (Γ : gC) (r0 : Nat) (x2 : Int32) (r3 : Nat) (x4 : Int32) (μ : gMem) : Prop := G l D RX9 cX9_reaches 5 (some .int) d (pI q) Γ 29 [(0, .ref (D.2.2 9 r0)), (2, .int x2), (3, .ref (D.2.2 4 r3)), (4, .int x4)] [] μ
set_option maxRecDepth 20000 in
set_option maxHeartbeats 4000000 in
theorem bl_X9_reaches_0 {l : Launch} {D : gD} {d : Nat} {q : Int32 → gMem → Prop} {Γ : gC} {r0 : Nat} {x1 : Int32} {x2 : Int32} {μ : gMem} (hr0 : r0 < 1) (h : (1 < d) ∧ (μ.2.2 0 < 2) ∧ ((((iw x1 (0 : Int32) (μ.1 7 (μ.2.2 0) 0 - (1 : Int32))) = 0) → q (-1 : Int32) μ) ∧ ((¬ (iw x1 (0 : Int32) (μ.1 7 (μ.2.2 0) 0 - (1 : Int32))) = 0) → (0 < d) ∧ (((¬ (iw x2 (1 : Int32) (99 : Int32)) = 0) → ∃ (d_12 : Nat) (q_13 : Nat → gMem → Prop), d_12 < d ∧ Ctr l D d_12 yX9_lookAhead cX9_lookAhead 2 (some (.object "WristGoal$Person")) [.ref (D.2.2 9 r0), .int x1] μ (pR D 4 q_13) ∧ ∀ (v_17 : Nat) (μ_16 : gMem), v_17 < 15 → q_13 v_17 μ_16 → ∀ x4_19 : Int32, x4_19 = (1 : Int32) → pt_X9_reaches_1 l D d q Γ r0 x2 v_17 x4_19 μ_16) ∧ (((iw x2 (1 : Int32) (99 : Int32)) = 0) → q (-1 : Int32) μ))))) : pt_X9_reaches_0 l D d q Γ r0 x1 x2 μ := by
  unfold pt_X9_reaches_0
  refine g_aload_n dX9_reaches_0 rfl ?_
  refine g_iload_n dX9_reaches_1 rfl ?_
  obtain ⟨hd_1, hs_2, h⟩ := h
  refine g_cV ca_X9_121 ob_9 (c_X9_isMan (d := 1) (Nat.le_refl _) hr0 hs_2 ) hd_1 (by decide) hr0 rfl rfl (by first | exact Nat.le_of_ble_eq_true rfl | decide) dX9_reaches_2 (kI (fun v_3 μ_4 hq_5 => ?_))
  obtain ⟨ev_3, eμ_4⟩ := hq_5
  subst ev_3
  refine g_mem eμ_4 ?_
  refine g_if_eq (tgt := 18) dX9_reaches_5 (by decide) (fun c_6 => ?_) (fun c_6 => ?_)
  · have h := h.1 c_6
    refine g_iconst (-1 : Int32) dX9_reaches_18 rfl ?_
    exact g_iret dX9_reaches_19 rfl rfl ⟨_, rfl, h⟩
  · have h := h.2 c_6
    refine g_iload_n dX9_reaches_8 rfl ?_
    refine g_iconst (1 : Int32) dX9_reaches_9 rfl ?_
    refine g_bipush (99 : Int32) dX9_reaches_10 rfl ?_
    obtain ⟨hd_7, h⟩ := h
    refine g_callS ca_X9_194 (c_X9_isWithin (d := 0) (Nat.le_refl _) ) hd_7 (by decide) rfl rfl (by first | exact Nat.le_of_ble_eq_true rfl | decide) dX9_reaches_12 (kI (fun v_8 μ_9 hq_10 => ?_))
    obtain ⟨ev_8, eμ_9⟩ := hq_10
    subst ev_8
    refine g_mem eμ_9 ?_
    refine g_if_ne (tgt := 20) dX9_reaches_15 (by decide) (fun c_11 => ?_) (fun c_11 => ?_)
    · have h := h.1 c_11
      refine g_aload_n dX9_reaches_20 rfl ?_
      refine g_iload_n dX9_reaches_21 rfl ?_
      obtain ⟨d_12, q_13, hd_14, hc_15, h⟩ := h
      refine g_cV ca_X9_243 ob_9 hc_15 hd_14 (by decide) hr0 rfl rfl (by first | exact Nat.le_of_ble_eq_true rfl | decide) dX9_reaches_22 (kR (fun v_17 μ_16 hv_17 hq_18 => ?_))
      have h := h v_17 μ_16 hv_17 hq_18
      refine g_astore_n dX9_reaches_25 (by decide) (g_sub (lv' := [(0, .ref (D.2.2 9 r0)), (2, .int x2), (3, .ref (D.2.2 4 v_17))]) [1, 3, 0] rfl ?_)
      refine g_iconst (1 : Int32) dX9_reaches_26 rfl ?_
      refine g_istore dX9_reaches_27 (by decide) (fun x4_19 ex4_19 => g_sub (lv' := [(0, .ref (D.2.2 9 r0)), (2, .int x2), (3, .ref (D.2.2 4 v_17)), (4, .int x4_19)]) [1, 2, 3, 0] rfl ?_)
      have h := h x4_19 ex4_19
      exact g_sub [0, 1, 2, 3] rfl h
    · have h := h.2 c_11
      refine g_iconst (-1 : Int32) dX9_reaches_18 rfl ?_
      exact g_iret dX9_reaches_19 rfl rfl ⟨_, rfl, h⟩
set_option maxRecDepth 20000 in
set_option maxHeartbeats 4000000 in
theorem bl_X9_reaches_1 {l : Launch} {D : gD} {d : Nat} {q : Int32 → gMem → Prop} {Γ : gC} {r0 : Nat} {x2 : Int32} {r3 : Nat} {x4 : Int32} {μ : gMem} (hr0 : r0 < 1) (hr3 : r3 < 15) (h : ((x2 < x4) → q (-2 : Int32) μ) ∧ ((¬ x2 < x4) → ∃ (d_2 : Nat) (q_3 : gMem → Prop), d_2 < d ∧ Ctr l D d_2 yX9_passAsItGoes cX9_passAsItGoes 4 none [.ref (D.2.2 9 r0), .int (1 : Int32)] μ (pV q_3) ∧ ∀ (μ_6 : gMem), q_3 μ_6 → (((μ_6.1 4 r3 2) ≤ 0) → ∀ x4_10 : Int32, x4_10 = x4 + (1 : Int32) → pt_X9_reaches_1 l D d q Γ r0 x2 r3 x4_10 μ_6) ∧ ((¬ (μ_6.1 4 r3 2) ≤ 0) → q x4 μ_6))) : pt_X9_reaches_1 l D d q Γ r0 x2 r3 x4 μ := by
  unfold pt_X9_reaches_1
  refine g_iload dX9_reaches_29 rfl ?_
  refine g_iload_n dX9_reaches_31 rfl ?_
  refine g_icmp_gt (tgt := 56) dX9_reaches_32 (by decide) (fun c_1 => ?_) (fun c_1 => ?_)
  · have h := h.1 c_1
    refine g_bipush (-2 : Int32) dX9_reaches_56 rfl ?_
    exact g_iret dX9_reaches_58 rfl rfl ⟨_, rfl, h⟩
  · have h := h.2 c_1
    refine g_aload_n dX9_reaches_35 rfl ?_
    refine g_iconst (1 : Int32) dX9_reaches_36 rfl ?_
    obtain ⟨d_2, q_3, hd_4, hc_5, h⟩ := h
    refine g_cV ca_X9_247 ob_9 hc_5 hd_4 (by decide) hr0 rfl rfl (by first | exact Nat.le_of_ble_eq_true rfl | decide) dX9_reaches_37 (kV (fun μ_6 hq_8 => ?_))
    have h := h μ_6 hq_8
    refine g_aload_n dX9_reaches_40 rfl ?_
    refine g_gfI fi_9_147 hr3 dX9_reaches_41 ?_
    refine g_if_le (tgt := 50) dX9_reaches_44 (by decide) (fun c_9 => ?_) (fun c_9 => ?_)
    · have h := h.1 c_9
      refine g_iinc dX9_reaches_50 rfl (by decide) (fun x4_10 ex4_10 => g_sub (lv' := [(0, .ref (D.2.2 9 r0)), (2, .int x2), (3, .ref (D.2.2 4 r3)), (4, .int x4_10)]) [1, 2, 3, 0] rfl ?_)
      have h := h x4_10 ex4_10
      refine g_goto (tgt := 29) dX9_reaches_53 (by decide) ?_
      exact g_sub [0, 1, 2, 3] rfl h
    · have h := h.2 c_9
      refine g_iload dX9_reaches_47 rfl ?_
      exact g_iret dX9_reaches_49 rfl rfl ⟨_, rfl, h⟩
theorem en_X9_reaches {l : Launch} {D : gD} {d : Nat} {q : Int32 → gMem → Prop} {r0 : Nat} {x1 : Int32} {x2 : Int32} {μ : gMem} (h : ∀ Γ : gC, pt_X9_reaches_0 l D d q Γ r0 x1 x2 μ) : Ctr l D d yX9_reaches cX9_reaches 5 (some .int) [.ref (D.2.2 9 r0), .int x1, .int x2] μ (pI q) :=
  Ctr_of rfl (by decide) (Nat.le_of_ble_eq_true rfl) (fun Γ => g_sub [0, 1, 2] rfl (h Γ))
def pt_X9_longest_0 (l : Launch) (D : gD) (d : Nat) (q : Int32 → gMem → Prop) (Γ : gC) (r0 : Nat) (x1 : Int32) (x2 : Int32) (μ : gMem) : Prop := G l D RX9 cX9_longest 6 (some .int) d (pI q) Γ 0 [(0, .ref (D.2.2 9 r0)), (1, .int x1), (2, .int x2)] [] μ
def pt_X9_longest_1 (l : Launch) (D : gD) (d : Nat) (q : Int32 → gMem → Prop) (Γ : gC) (r0 : Nat) (x2 : Int32) (r3 : Nat) (x4 : Int32) (x5 : Int32) (μ : gMem) : Prop := G l D RX9 cX9_longest 6 (some .int) d (pI q) Γ 35 [(0, .ref (D.2.2 9 r0)), (2, .int x2), (3, .ref (D.2.2 4 r3)), (4, .int x4), (5, .int x5)] [] μ
set_option maxRecDepth 20000 in
set_option maxHeartbeats 4000000 in
theorem bl_X9_longest_0 {l : Launch} {D : gD} {d : Nat} {q : Int32 → gMem → Prop} {Γ : gC} {r0 : Nat} {x1 : Int32} {x2 : Int32} {μ : gMem} (hr0 : r0 < 1) (h : (1 < d) ∧ (μ.2.2 0 < 2) ∧ ((((iw x1 (0 : Int32) (μ.1 7 (μ.2.2 0) 0 - (1 : Int32))) = 0) → q (-1 : Int32) μ) ∧ ((¬ (iw x1 (0 : Int32) (μ.1 7 (μ.2.2 0) 0 - (1 : Int32))) = 0) → (0 < d) ∧ (((¬ (iw x2 (0 : Int32) (99 : Int32)) = 0) → ∃ (d_12 : Nat) (q_13 : Nat → gMem → Prop), d_12 < d ∧ Ctr l D d_12 yX9_lookAhead cX9_lookAhead 2 (some (.object "WristGoal$Person")) [.ref (D.2.2 9 r0), .int x1] μ (pR D 4 q_13) ∧ ∀ (v_17 : Nat) (μ_16 : gMem), v_17 < 15 → q_13 v_17 μ_16 → ∀ x4_19 : Int32, x4_19 = μ_16.1 4 v_17 2 → ∀ x5_20 : Int32, x5_20 = (0 : Int32) → pt_X9_longest_1 l D d q Γ r0 x2 v_17 x4_19 x5_20 μ_16) ∧ (((iw x2 (0 : Int32) (99 : Int32)) = 0) → q (-1 : Int32) μ))))) : pt_X9_longest_0 l D d q Γ r0 x1 x2 μ := by
  unfold pt_X9_longest_0
  refine g_aload_n dX9_longest_0 rfl ?_
  refine g_iload_n dX9_longest_1 rfl ?_
  obtain ⟨hd_1, hs_2, h⟩ := h
  refine g_cV ca_X9_121 ob_9 (c_X9_isMan (d := 1) (Nat.le_refl _) hr0 hs_2 ) hd_1 (by decide) hr0 rfl rfl (by first | exact Nat.le_of_ble_eq_true rfl | decide) dX9_longest_2 (kI (fun v_3 μ_4 hq_5 => ?_))
  obtain ⟨ev_3, eμ_4⟩ := hq_5
  subst ev_3
  refine g_mem eμ_4 ?_
  refine g_if_eq (tgt := 18) dX9_longest_5 (by decide) (fun c_6 => ?_) (fun c_6 => ?_)
  · have h := h.1 c_6
    refine g_iconst (-1 : Int32) dX9_longest_18 rfl ?_
    exact g_iret dX9_longest_19 rfl rfl ⟨_, rfl, h⟩
  · have h := h.2 c_6
    refine g_iload_n dX9_longest_8 rfl ?_
    refine g_iconst (0 : Int32) dX9_longest_9 rfl ?_
    refine g_bipush (99 : Int32) dX9_longest_10 rfl ?_
    obtain ⟨hd_7, h⟩ := h
    refine g_callS ca_X9_194 (c_X9_isWithin (d := 0) (Nat.le_refl _) ) hd_7 (by decide) rfl rfl (by first | exact Nat.le_of_ble_eq_true rfl | decide) dX9_longest_12 (kI (fun v_8 μ_9 hq_10 => ?_))
    obtain ⟨ev_8, eμ_9⟩ := hq_10
    subst ev_8
    refine g_mem eμ_9 ?_
    refine g_if_ne (tgt := 20) dX9_longest_15 (by decide) (fun c_11 => ?_) (fun c_11 => ?_)
    · have h := h.1 c_11
      refine g_aload_n dX9_longest_20 rfl ?_
      refine g_iload_n dX9_longest_21 rfl ?_
      obtain ⟨d_12, q_13, hd_14, hc_15, h⟩ := h
      refine g_cV ca_X9_243 ob_9 hc_15 hd_14 (by decide) hr0 rfl rfl (by first | exact Nat.le_of_ble_eq_true rfl | decide) dX9_longest_22 (kR (fun v_17 μ_16 hv_17 hq_18 => ?_))
      have h := h v_17 μ_16 hv_17 hq_18
      refine g_astore_n dX9_longest_25 (by decide) (g_sub (lv' := [(0, .ref (D.2.2 9 r0)), (2, .int x2), (3, .ref (D.2.2 4 v_17))]) [1, 3, 0] rfl ?_)
      refine g_aload_n dX9_longest_26 rfl ?_
      refine g_gfI fi_9_147 hv_17 dX9_longest_27 ?_
      refine g_istore dX9_longest_30 (by decide) (fun x4_19 ex4_19 => g_sub (lv' := [(0, .ref (D.2.2 9 r0)), (2, .int x2), (3, .ref (D.2.2 4 v_17)), (4, .int x4_19)]) [1, 2, 3, 0] rfl ?_)
      have h := h x4_19 ex4_19
      refine g_iconst (0 : Int32) dX9_longest_32 rfl ?_
      refine g_istore dX9_longest_33 (by decide) (fun x5_20 ex5_20 => g_sub (lv' := [(0, .ref (D.2.2 9 r0)), (2, .int x2), (3, .ref (D.2.2 4 v_17)), (4, .int x4_19), (5, .int x5_20)]) [1, 2, 3, 4, 0] rfl ?_)
      have h := h x5_20 ex5_20
      exact g_sub [0, 1, 2, 3, 4] rfl h
    · have h := h.2 c_11
      refine g_iconst (-1 : Int32) dX9_longest_18 rfl ?_
      exact g_iret dX9_longest_19 rfl rfl ⟨_, rfl, h⟩
set_option maxRecDepth 20000 in
set_option maxHeartbeats 4000000 in
theorem bl_X9_longest_1 {l : Launch} {D : gD} {d : Nat} {q : Int32 → gMem → Prop} {Γ : gC} {r0 : Nat} {x2 : Int32} {r3 : Nat} {x4 : Int32} {x5 : Int32} {μ : gMem} (hr0 : r0 < 1) (hr3 : r3 < 15) (h : ((x2 ≤ x5) → q x4 μ) ∧ ((¬ x2 ≤ x5) → ∃ (d_2 : Nat) (q_3 : gMem → Prop), d_2 < d ∧ Ctr l D d_2 yX9_passAsItGoes cX9_passAsItGoes 4 none [.ref (D.2.2 9 r0), .int (1 : Int32)] μ (pV q_3) ∧ ∀ (μ_6 : gMem), q_3 μ_6 → (0 < d) ∧ (∀ x4_10 : Int32, x4_10 = imax x4 (μ_6.1 4 r3 2) → ∀ x5_11 : Int32, x5_11 = x5 + (1 : Int32) → pt_X9_longest_1 l D d q Γ r0 x2 r3 x4_10 x5_11 μ_6))) : pt_X9_longest_1 l D d q Γ r0 x2 r3 x4 x5 μ := by
  unfold pt_X9_longest_1
  refine g_iload dX9_longest_35 rfl ?_
  refine g_iload_n dX9_longest_37 rfl ?_
  refine g_icmp_ge (tgt := 63) dX9_longest_38 (by decide) (fun c_1 => ?_) (fun c_1 => ?_)
  · have h := h.1 c_1
    refine g_iload dX9_longest_63 rfl ?_
    exact g_iret dX9_longest_65 rfl rfl ⟨_, rfl, h⟩
  · have h := h.2 c_1
    refine g_aload_n dX9_longest_41 rfl ?_
    refine g_iconst (1 : Int32) dX9_longest_42 rfl ?_
    obtain ⟨d_2, q_3, hd_4, hc_5, h⟩ := h
    refine g_cV ca_X9_247 ob_9 hc_5 hd_4 (by decide) hr0 rfl rfl (by first | exact Nat.le_of_ble_eq_true rfl | decide) dX9_longest_43 (kV (fun μ_6 hq_8 => ?_))
    have h := h μ_6 hq_8
    refine g_iload dX9_longest_46 rfl ?_
    refine g_aload_n dX9_longest_48 rfl ?_
    refine g_gfI fi_9_147 hr3 dX9_longest_49 ?_
    obtain ⟨hd_9, h⟩ := h
    refine g_mmax hd_9 mk_X9_250 (by first | exact Nat.le_of_ble_eq_true rfl | decide) dX9_longest_52 ?_
    refine g_istore dX9_longest_55 (by decide) (fun x4_10 ex4_10 => g_sub (lv' := [(0, .ref (D.2.2 9 r0)), (2, .int x2), (3, .ref (D.2.2 4 r3)), (4, .int x4_10), (5, .int x5)]) [1, 2, 3, 0, 4] rfl ?_)
    have h := h x4_10 ex4_10
    refine g_iinc dX9_longest_57 rfl (by decide) (fun x5_11 ex5_11 => g_sub (lv' := [(0, .ref (D.2.2 9 r0)), (2, .int x2), (3, .ref (D.2.2 4 r3)), (4, .int x4_10), (5, .int x5_11)]) [1, 2, 3, 4, 0] rfl ?_)
    have h := h x5_11 ex5_11
    refine g_goto (tgt := 35) dX9_longest_60 (by decide) ?_
    exact g_sub [0, 1, 2, 3, 4] rfl h
theorem en_X9_longest {l : Launch} {D : gD} {d : Nat} {q : Int32 → gMem → Prop} {r0 : Nat} {x1 : Int32} {x2 : Int32} {μ : gMem} (h : ∀ Γ : gC, pt_X9_longest_0 l D d q Γ r0 x1 x2 μ) : Ctr l D d yX9_longest cX9_longest 6 (some .int) [.ref (D.2.2 9 r0), .int x1, .int x2] μ (pI q) :=
  Ctr_of rfl (by decide) (Nat.le_of_ble_eq_true rfl) (fun Γ => g_sub [0, 1, 2] rfl (h Γ))
def pt_X9_moves_0 (l : Launch) (D : gD) (d : Nat) (q : Int32 → gMem → Prop) (Γ : gC) (r0 : Nat) (x1 : Int32) (x2 : Int32) (x3 : Int32) (μ : gMem) : Prop := G l D RX9 cX9_moves 9 (some .int) d (pI q) Γ 0 [(0, .ref (D.2.2 9 r0)), (1, .int x1), (2, .int x2), (3, .int x3)] [] μ
def pt_X9_moves_1 (l : Launch) (D : gD) (d : Nat) (q : Int32 → gMem → Prop) (Γ : gC) (r0 : Nat) (x1 : Int32) (x2 : Int32) (x3 : Int32) (x4 : Int32) (x5 : Int32) (x6 : Int32) (μ : gMem) : Prop := G l D RX9 cX9_moves 9 (some .int) d (pI q) Γ 38 [(0, .ref (D.2.2 9 r0)), (1, .int x1), (2, .int x2), (3, .int x3), (4, .int x4), (5, .int x5), (6, .int x6)] [] μ
def pt_X9_moves_2 (l : Launch) (D : gD) (d : Nat) (q : Int32 → gMem → Prop) (Γ : gC) (r0 : Nat) (x1 : Int32) (x2 : Int32) (x3 : Int32) (x4 : Int32) (x5 : Int32) (x6 : Int32) (μ : gMem) : Prop := G l D RX9 cX9_moves 9 (some .int) d (pI q) Γ 99 [(0, .ref (D.2.2 9 r0)), (1, .int x1), (2, .int x2), (3, .int x3), (4, .int x4), (5, .int x5), (6, .int x6)] [] μ
set_option maxRecDepth 20000 in
set_option maxHeartbeats 4000000 in
theorem bl_X9_moves_0 {l : Launch} {D : gD} {d : Nat} {q : Int32 → gMem → Prop} {Γ : gC} {r0 : Nat} {x1 : Int32} {x2 : Int32} {x3 : Int32} {μ : gMem} (hr0 : r0 < 1) (h : (1 < d) ∧ (μ.2.2 0 < 2) ∧ ((((iw x1 (0 : Int32) (μ.1 7 (μ.2.2 0) 0 - (1 : Int32))) = 0) → q (-1 : Int32) μ) ∧ ((¬ (iw x1 (0 : Int32) (μ.1 7 (μ.2.2 0) 0 - (1 : Int32))) = 0) → (0 < d) ∧ ((((iw x2 (1 : Int32) (60 : Int32)) = 0) → q (-1 : Int32) μ) ∧ ((¬ (iw x2 (1 : Int32) (60 : Int32)) = 0) → (0 < d) ∧ (((¬ (iw x3 (0 : Int32) (1 : Int32)) = 0) → ∀ x4_17 : Int32, x4_17 = (0 : Int32) → ∀ x5_18 : Int32, x5_18 = (-1 : Int32) → ∀ x6_19 : Int32, x6_19 = (0 : Int32) → pt_X9_moves_1 l D d q Γ r0 x1 x2 x3 x4_17 x5_18 x6_19 μ) ∧ (((iw x3 (0 : Int32) (1 : Int32)) = 0) → q (-1 : Int32) μ))))))) : pt_X9_moves_0 l D d q Γ r0 x1 x2 x3 μ := by
  unfold pt_X9_moves_0
  refine g_aload_n dX9_moves_0 rfl ?_
  refine g_iload_n dX9_moves_1 rfl ?_
  obtain ⟨hd_1, hs_2, h⟩ := h
  refine g_cV ca_X9_121 ob_9 (c_X9_isMan (d := 1) (Nat.le_refl _) hr0 hs_2 ) hd_1 (by decide) hr0 rfl rfl (by first | exact Nat.le_of_ble_eq_true rfl | decide) dX9_moves_2 (kI (fun v_3 μ_4 hq_5 => ?_))
  obtain ⟨ev_3, eμ_4⟩ := hq_5
  subst ev_3
  refine g_mem eμ_4 ?_
  refine g_if_eq (tgt := 27) dX9_moves_5 (by decide) (fun c_6 => ?_) (fun c_6 => ?_)
  · have h := h.1 c_6
    refine g_iconst (-1 : Int32) dX9_moves_27 rfl ?_
    exact g_iret dX9_moves_28 rfl rfl ⟨_, rfl, h⟩
  · have h := h.2 c_6
    refine g_iload_n dX9_moves_8 rfl ?_
    refine g_iconst (1 : Int32) dX9_moves_9 rfl ?_
    refine g_bipush (60 : Int32) dX9_moves_10 rfl ?_
    obtain ⟨hd_7, h⟩ := h
    refine g_callS ca_X9_194 (c_X9_isWithin (d := 0) (Nat.le_refl _) ) hd_7 (by decide) rfl rfl (by first | exact Nat.le_of_ble_eq_true rfl | decide) dX9_moves_12 (kI (fun v_8 μ_9 hq_10 => ?_))
    obtain ⟨ev_8, eμ_9⟩ := hq_10
    subst ev_8
    refine g_mem eμ_9 ?_
    refine g_if_eq (tgt := 27) dX9_moves_15 (by decide) (fun c_11 => ?_) (fun c_11 => ?_)
    · have h := h.1 c_11
      refine g_iconst (-1 : Int32) dX9_moves_27 rfl ?_
      exact g_iret dX9_moves_28 rfl rfl ⟨_, rfl, h⟩
    · have h := h.2 c_11
      refine g_iload_n dX9_moves_18 rfl ?_
      refine g_iconst (0 : Int32) dX9_moves_19 rfl ?_
      refine g_iconst (1 : Int32) dX9_moves_20 rfl ?_
      obtain ⟨hd_12, h⟩ := h
      refine g_callS ca_X9_194 (c_X9_isWithin (d := 0) (Nat.le_refl _) ) hd_12 (by decide) rfl rfl (by first | exact Nat.le_of_ble_eq_true rfl | decide) dX9_moves_21 (kI (fun v_13 μ_14 hq_15 => ?_))
      obtain ⟨ev_13, eμ_14⟩ := hq_15
      subst ev_13
      refine g_mem eμ_14 ?_
      refine g_if_ne (tgt := 29) dX9_moves_24 (by decide) (fun c_16 => ?_) (fun c_16 => ?_)
      · have h := h.1 c_16
        refine g_iconst (0 : Int32) dX9_moves_29 rfl ?_
        refine g_istore dX9_moves_30 (by decide) (fun x4_17 ex4_17 => g_sub (lv' := [(0, .ref (D.2.2 9 r0)), (1, .int x1), (2, .int x2), (3, .int x3), (4, .int x4_17)]) [1, 2, 3, 4, 0] rfl ?_)
        have h := h x4_17 ex4_17
        refine g_iconst (-1 : Int32) dX9_moves_32 rfl ?_
        refine g_istore dX9_moves_33 (by decide) (fun x5_18 ex5_18 => g_sub (lv' := [(0, .ref (D.2.2 9 r0)), (1, .int x1), (2, .int x2), (3, .int x3), (4, .int x4_17), (5, .int x5_18)]) [1, 2, 3, 4, 5, 0] rfl ?_)
        have h := h x5_18 ex5_18
        refine g_iconst (0 : Int32) dX9_moves_35 rfl ?_
        refine g_istore dX9_moves_36 (by decide) (fun x6_19 ex6_19 => g_sub (lv' := [(0, .ref (D.2.2 9 r0)), (1, .int x1), (2, .int x2), (3, .int x3), (4, .int x4_17), (5, .int x5_18), (6, .int x6_19)]) [1, 2, 3, 4, 5, 6, 0] rfl ?_)
        have h := h x6_19 ex6_19
        exact g_sub [0, 1, 2, 3, 4, 5, 6] rfl h
      · have h := h.2 c_16
        refine g_iconst (-1 : Int32) dX9_moves_27 rfl ?_
        exact g_iret dX9_moves_28 rfl rfl ⟨_, rfl, h⟩
set_option maxRecDepth 20000 in
set_option maxHeartbeats 4000000 in
theorem bl_X9_moves_1 {l : Launch} {D : gD} {d : Nat} {q : Int32 → gMem → Prop} {Γ : gC} {r0 : Nat} {x1 : Int32} {x2 : Int32} {x3 : Int32} {x4 : Int32} {x5 : Int32} {x6 : Int32} {μ : gMem} (hr0 : r0 < 1) (h : (((99 : Int32) < x6) → ((¬ x3 = 0) → q x5 μ) ∧ ((x3 = 0) → q x4 μ)) ∧ ((¬ (99 : Int32) < x6) → ∃ (d_3 : Nat) (q_4 : Nat → gMem → Prop), d_3 < d ∧ Ctr l D d_3 yX9_lookAhead cX9_lookAhead 2 (some (.object "WristGoal$Person")) [.ref (D.2.2 9 r0), .int x1] μ (pR D 4 q_4) ∧ ∀ (v_8 : Nat) (μ_7 : gMem), v_8 < 15 → q_4 v_8 μ_7 → ∀ μ_10 : gMem, μ_10 = gsI μ_7 4 v_8 0 x6 → ∃ (d_11 : Nat) (q_12 : gMem → Prop), d_11 < d ∧ Ctr l D d_11 yX9_passAsItGoes cX9_passAsItGoes 4 none [.ref (D.2.2 9 r0), .int x2] μ_10 (pV q_12) ∧ ∀ (μ_15 : gMem), q_12 μ_15 → ∃ j_18 : Nat, j_18 < 5 ∧ x1 = nI j_18 ∧ (∀ x8_20 : Int32, x8_20 = (μ_15.1 4 v_8 5) - (μ_15.1 4 (5 * 0 + j_18) 5) → ((x8_20 ≤ x5) → pt_X9_moves_2 l D d q Γ r0 x1 x2 x3 x4 x5 x6 μ_15) ∧ ((¬ x8_20 ≤ x5) → ∀ x5_22 : Int32, x5_22 = x8_20 → ∀ x4_23 : Int32, x4_23 = x6 → pt_X9_moves_2 l D d q Γ r0 x1 x2 x3 x4_23 x5_22 x6 μ_15)))) : pt_X9_moves_1 l D d q Γ r0 x1 x2 x3 x4 x5 x6 μ := by
  unfold pt_X9_moves_1
  refine g_iload dX9_moves_38 rfl ?_
  refine g_bipush (99 : Int32) dX9_moves_40 rfl ?_
  refine g_icmp_gt (tgt := 105) dX9_moves_42 (by decide) (fun c_1 => ?_) (fun c_1 => ?_)
  · have h := h.1 c_1
    refine g_iload_n dX9_moves_105 rfl ?_
    refine g_if_ne (tgt := 114) dX9_moves_106 (by decide) (fun c_2 => ?_) (fun c_2 => ?_)
    · have h := h.1 c_2
      refine g_iload dX9_moves_114 rfl ?_
      exact g_iret dX9_moves_116 rfl rfl ⟨_, rfl, h⟩
    · have h := h.2 c_2
      refine g_iload dX9_moves_109 rfl ?_
      refine g_goto (tgt := 116) dX9_moves_111 (by decide) ?_
      exact g_iret dX9_moves_116 rfl rfl ⟨_, rfl, h⟩
  · have h := h.2 c_1
    refine g_aload_n dX9_moves_45 rfl ?_
    refine g_iload_n dX9_moves_46 rfl ?_
    obtain ⟨d_3, q_4, hd_5, hc_6, h⟩ := h
    refine g_cV ca_X9_243 ob_9 hc_6 hd_5 (by decide) hr0 rfl rfl (by first | exact Nat.le_of_ble_eq_true rfl | decide) dX9_moves_47 (kR (fun v_8 μ_7 hv_8 hq_9 => ?_))
    have h := h v_8 μ_7 hv_8 hq_9
    refine g_astore dX9_moves_50 (by decide) (g_sub (lv' := [(0, .ref (D.2.2 9 r0)), (1, .int x1), (2, .int x2), (3, .int x3), (4, .int x4), (5, .int x5), (6, .int x6), (7, .ref (D.2.2 4 v_8))]) [1, 2, 3, 4, 5, 6, 7, 0] rfl ?_)
    refine g_aload dX9_moves_52 rfl ?_
    refine g_iload dX9_moves_54 rfl ?_
    refine g_pfI fi_9_136 hv_8 rfl rfl dX9_moves_56 ?_
    obtain ⟨μ_10, eμ_10⟩ : ∃ z : gMem, z = gsI μ_7 4 v_8 0 x6 := ⟨_, rfl⟩
    have h := h μ_10 eμ_10
    refine g_mem eμ_10.symm ?_
    refine g_aload_n dX9_moves_59 rfl ?_
    refine g_iload_n dX9_moves_60 rfl ?_
    obtain ⟨d_11, q_12, hd_13, hc_14, h⟩ := h
    refine g_cV ca_X9_247 ob_9 hc_14 hd_13 (by decide) hr0 rfl rfl (by first | exact Nat.le_of_ble_eq_true rfl | decide) dX9_moves_61 (kV (fun μ_15 hq_17 => ?_))
    have h := h μ_15 hq_17
    refine g_aload dX9_moves_64 rfl ?_
    refine g_gfI fi_9_156 hv_8 dX9_moves_66 ?_
    refine g_aload_n dX9_moves_69 rfl ?_
    refine g_gfR fl_9_38 rfl hr0 dX9_moves_70 ?_
    refine g_gfR fl_9_132 rfl (by decide) dX9_moves_73 ?_
    refine g_iload_n dX9_moves_76 rfl ?_
    obtain ⟨j_18, hj_18, ej_18, h⟩ := h
    refine g_aald j_18 (by decide) hj_18 ej_18 dX9_moves_77 ?_
    have hp_19 : 5 * 0 + j_18 < 15 := by have : 0 < 3 := (by decide); omega
    refine g_gfI fi_9_156 hp_19 dX9_moves_78 ?_
    refine g_isub dX9_moves_81 ?_
    refine g_istore dX9_moves_82 (by decide) (fun x8_20 ex8_20 => g_sub (lv' := [(0, .ref (D.2.2 9 r0)), (1, .int x1), (2, .int x2), (3, .int x3), (4, .int x4), (5, .int x5), (6, .int x6), (8, .int x8_20)]) [1, 2, 3, 4, 5, 6, 7, 0] rfl ?_)
    have h := h x8_20 ex8_20
    refine g_iload dX9_moves_84 rfl ?_
    refine g_iload dX9_moves_86 rfl ?_
    refine g_icmp_le (tgt := 99) dX9_moves_88 (by decide) (fun c_21 => ?_) (fun c_21 => ?_)
    · have h := h.1 c_21
      exact g_sub [0, 1, 2, 3, 4, 5, 6] rfl h
    · have h := h.2 c_21
      refine g_iload dX9_moves_91 rfl ?_
      refine g_istore dX9_moves_93 (by decide) (fun x5_22 ex5_22 => g_sub (lv' := [(0, .ref (D.2.2 9 r0)), (1, .int x1), (2, .int x2), (3, .int x3), (5, .int x5_22), (6, .int x6)]) [1, 2, 3, 4, 0, 6] rfl ?_)
      have h := h x5_22 ex5_22
      refine g_iload dX9_moves_95 rfl ?_
      refine g_istore dX9_moves_97 (by decide) (fun x4_23 ex4_23 => g_sub (lv' := [(0, .ref (D.2.2 9 r0)), (1, .int x1), (2, .int x2), (3, .int x3), (4, .int x4_23), (5, .int x5_22), (6, .int x6)]) [1, 2, 3, 4, 0, 5, 6] rfl ?_)
      have h := h x4_23 ex4_23
      exact g_sub [0, 1, 2, 3, 4, 5, 6] rfl h
set_option maxRecDepth 20000 in
set_option maxHeartbeats 4000000 in
theorem bl_X9_moves_2 {l : Launch} {D : gD} {d : Nat} {q : Int32 → gMem → Prop} {Γ : gC} {r0 : Nat} {x1 : Int32} {x2 : Int32} {x3 : Int32} {x4 : Int32} {x5 : Int32} {x6 : Int32} {μ : gMem} (hr0 : r0 < 1) (h : ∀ x6_1 : Int32, x6_1 = x6 + (1 : Int32) → pt_X9_moves_1 l D d q Γ r0 x1 x2 x3 x4 x5 x6_1 μ) : pt_X9_moves_2 l D d q Γ r0 x1 x2 x3 x4 x5 x6 μ := by
  unfold pt_X9_moves_2
  refine g_iinc dX9_moves_99 rfl (by decide) (fun x6_1 ex6_1 => g_sub (lv' := [(0, .ref (D.2.2 9 r0)), (1, .int x1), (2, .int x2), (3, .int x3), (4, .int x4), (5, .int x5), (6, .int x6_1)]) [1, 2, 3, 4, 5, 6, 0] rfl ?_)
  have h := h x6_1 ex6_1
  refine g_goto (tgt := 38) dX9_moves_102 (by decide) ?_
  exact g_sub [0, 1, 2, 3, 4, 5, 6] rfl h
theorem en_X9_moves {l : Launch} {D : gD} {d : Nat} {q : Int32 → gMem → Prop} {r0 : Nat} {x1 : Int32} {x2 : Int32} {x3 : Int32} {μ : gMem} (h : ∀ Γ : gC, pt_X9_moves_0 l D d q Γ r0 x1 x2 x3 μ) : Ctr l D d yX9_moves cX9_moves 9 (some .int) [.ref (D.2.2 9 r0), .int x1, .int x2, .int x3] μ (pI q) :=
  Ctr_of rfl (by decide) (Nat.le_of_ble_eq_true rfl) (fun Γ => g_sub [0, 1, 2, 3] rfl (h Γ))
def pt_X9_deeds_0 (l : Launch) (D : gD) (d : Nat) (q : Int32 → gMem → Prop) (Γ : gC) (r0 : Nat) (x1 : Int32) (x2 : Int32) (μ : gMem) : Prop := G l D RX9 cX9_deeds 3 (some .int) d (pI q) Γ 0 [(0, .ref (D.2.2 9 r0)), (1, .int x1), (2, .int x2)] [] μ
def pt_X9_deeds_1 (l : Launch) (D : gD) (d : Nat) (q : Int32 → gMem → Prop) (Γ : gC) (r0 : Nat) (x1 : Int32) (x2 : Int32) (μ : gMem) : Prop := G l D RX9 cX9_deeds 3 (some .int) d (pI q) Γ 38 [(0, .ref (D.2.2 9 r0)), (1, .int x1), (2, .int x2)] [] μ
set_option maxRecDepth 20000 in
set_option maxHeartbeats 4000000 in
theorem bl_X9_deeds_0 {l : Launch} {D : gD} {d : Nat} {q : Int32 → gMem → Prop} {Γ : gC} {r0 : Nat} {x1 : Int32} {x2 : Int32} {μ : gMem} (hr0 : r0 < 1) (h : (1 < d) ∧ (μ.2.2 0 < 2) ∧ ((((iw x1 (0 : Int32) (μ.1 7 (μ.2.2 0) 0 - (1 : Int32))) = 0) → q (-1 : Int32) μ) ∧ ((¬ (iw x1 (0 : Int32) (μ.1 7 (μ.2.2 0) 0 - (1 : Int32))) = 0) → (0 < d) ∧ (((¬ (iw x2 (0 : Int32) (4 : Int32)) = 0) → (((4 : Int32) ≤ x2) → pt_X9_deeds_1 l D d q Γ r0 x1 x2 μ) ∧ ((¬ (4 : Int32) ≤ x2) → (μ.2.2 0 < 2) ∧ (((x2 < (μ.1 7 (μ.2.2 0) 5)) → pt_X9_deeds_1 l D d q Γ r0 x1 x2 μ) ∧ ((¬ x2 < (μ.1 7 (μ.2.2 0) 5)) → q (-2 : Int32) μ)))) ∧ (((iw x2 (0 : Int32) (4 : Int32)) = 0) → q (-1 : Int32) μ))))) : pt_X9_deeds_0 l D d q Γ r0 x1 x2 μ := by
  unfold pt_X9_deeds_0
  refine g_aload_n dX9_deeds_0 rfl ?_
  refine g_iload_n dX9_deeds_1 rfl ?_
  obtain ⟨hd_1, hs_2, h⟩ := h
  refine g_cV ca_X9_121 ob_9 (c_X9_isMan (d := 1) (Nat.le_refl _) hr0 hs_2 ) hd_1 (by decide) hr0 rfl rfl (by first | exact Nat.le_of_ble_eq_true rfl | decide) dX9_deeds_2 (kI (fun v_3 μ_4 hq_5 => ?_))
  obtain ⟨ev_3, eμ_4⟩ := hq_5
  subst ev_3
  refine g_mem eμ_4 ?_
  refine g_if_eq (tgt := 17) dX9_deeds_5 (by decide) (fun c_6 => ?_) (fun c_6 => ?_)
  · have h := h.1 c_6
    refine g_iconst (-1 : Int32) dX9_deeds_17 rfl ?_
    exact g_iret dX9_deeds_18 rfl rfl ⟨_, rfl, h⟩
  · have h := h.2 c_6
    refine g_iload_n dX9_deeds_8 rfl ?_
    refine g_iconst (0 : Int32) dX9_deeds_9 rfl ?_
    refine g_iconst (4 : Int32) dX9_deeds_10 rfl ?_
    obtain ⟨hd_7, h⟩ := h
    refine g_callS ca_X9_194 (c_X9_isWithin (d := 0) (Nat.le_refl _) ) hd_7 (by decide) rfl rfl (by first | exact Nat.le_of_ble_eq_true rfl | decide) dX9_deeds_11 (kI (fun v_8 μ_9 hq_10 => ?_))
    obtain ⟨ev_8, eμ_9⟩ := hq_10
    subst ev_8
    refine g_mem eμ_9 ?_
    refine g_if_ne (tgt := 19) dX9_deeds_14 (by decide) (fun c_11 => ?_) (fun c_11 => ?_)
    · have h := h.1 c_11
      refine g_iload_n dX9_deeds_19 rfl ?_
      refine g_iconst (4 : Int32) dX9_deeds_20 rfl ?_
      refine g_icmp_ge (tgt := 38) dX9_deeds_21 (by decide) (fun c_12 => ?_) (fun c_12 => ?_)
      · have h := h.1 c_12
        exact g_sub [0, 1, 2] rfl h
      · have h := h.2 c_12
        refine g_iload_n dX9_deeds_24 rfl ?_
        refine g_aload_n dX9_deeds_25 rfl ?_
        obtain ⟨hR_13, h⟩ := h
        refine g_gfR fl_9_28 rfl hr0 dX9_deeds_26 ?_
        refine g_gfI fi_9_118 hR_13 dX9_deeds_29 ?_
        refine g_icmp_lt (tgt := 38) dX9_deeds_32 (by decide) (fun c_14 => ?_) (fun c_14 => ?_)
        · have h := h.1 c_14
          exact g_sub [0, 1, 2] rfl h
        · have h := h.2 c_14
          refine g_bipush (-2 : Int32) dX9_deeds_35 rfl ?_
          exact g_iret dX9_deeds_37 rfl rfl ⟨_, rfl, h⟩
    · have h := h.2 c_11
      refine g_iconst (-1 : Int32) dX9_deeds_17 rfl ?_
      exact g_iret dX9_deeds_18 rfl rfl ⟨_, rfl, h⟩
set_option maxRecDepth 20000 in
set_option maxHeartbeats 4000000 in
theorem bl_X9_deeds_1 {l : Launch} {D : gD} {d : Nat} {q : Int32 → gMem → Prop} {Γ : gC} {r0 : Nat} {x1 : Int32} {x2 : Int32} {μ : gMem} (hr0 : r0 < 1) (h : ∃ j_1 : Nat, j_1 < 5 ∧ x1 = nI j_1 ∧ (∃ (d_3 : Nat) (q_4 : Int32 → gMem → Prop), d_3 < d ∧ Ctr l D d_3 yX9_findFewest cX9_findFewest 9 (some .boolean) [.ref (D.2.2 9 r0), .ref (D.2.2 4 (5 * 0 + j_1))] μ (pI q_4) ∧ ∀ (v_8 : Int32) (μ_7 : gMem), q_4 v_8 μ_7 → ((v_8 = 0) → q (-3 : Int32) μ_7) ∧ ((¬ v_8 = 0) → ∃ j_11 : Nat, j_11 < 5 ∧ x2 = nI j_11 ∧ (q (μ_7.1 650 r0 j_11) μ_7)))) : pt_X9_deeds_1 l D d q Γ r0 x1 x2 μ := by
  unfold pt_X9_deeds_1
  refine g_aload_n dX9_deeds_38 rfl ?_
  refine g_aload_n dX9_deeds_39 rfl ?_
  refine g_gfR fl_9_38 rfl hr0 dX9_deeds_40 ?_
  refine g_gfR fl_9_132 rfl (by decide) dX9_deeds_43 ?_
  refine g_iload_n dX9_deeds_46 rfl ?_
  obtain ⟨j_1, hj_1, ej_1, h⟩ := h
  refine g_aald j_1 (by decide) hj_1 ej_1 dX9_deeds_47 ?_
  have hp_2 : 5 * 0 + j_1 < 15 := by have : 0 < 3 := (by decide); omega
  obtain ⟨d_3, q_4, hd_5, hc_6, h⟩ := h
  refine g_cV ca_X9_256 ob_9 hc_6 hd_5 (by decide) hr0 rfl rfl (by first | exact Nat.le_of_ble_eq_true rfl | decide) dX9_deeds_48 (kI (fun v_8 μ_7 hq_9 => ?_))
  have h := h v_8 μ_7 hq_9
  refine g_if_eq (tgt := 63) dX9_deeds_51 (by decide) (fun c_10 => ?_) (fun c_10 => ?_)
  · have h := h.1 c_10
    refine g_bipush (-3 : Int32) dX9_deeds_63 rfl ?_
    exact g_iret dX9_deeds_65 rfl rfl ⟨_, rfl, h⟩
  · have h := h.2 c_10
    refine g_aload_n dX9_deeds_54 rfl ?_
    refine g_gfR fl_9_66 rfl hr0 dX9_deeds_55 ?_
    refine g_iload_n dX9_deeds_58 rfl ?_
    obtain ⟨j_11, hj_11, ej_11, h⟩ := h
    refine g_iald j_11 hr0 rfl hj_11 (by decide) ej_11 dX9_deeds_59 ?_
    refine g_goto (tgt := 65) dX9_deeds_60 (by decide) ?_
    exact g_iret dX9_deeds_65 rfl rfl ⟨_, rfl, h⟩
theorem en_X9_deeds {l : Launch} {D : gD} {d : Nat} {q : Int32 → gMem → Prop} {r0 : Nat} {x1 : Int32} {x2 : Int32} {μ : gMem} (h : ∀ Γ : gC, pt_X9_deeds_0 l D d q Γ r0 x1 x2 μ) : Ctr l D d yX9_deeds cX9_deeds 3 (some .int) [.ref (D.2.2 9 r0), .int x1, .int x2] μ (pI q) :=
  Ctr_of rfl (by decide) (Nat.le_of_ble_eq_true rfl) (fun Γ => g_sub [0, 1, 2] rfl (h Γ))
def pt_X9_leads_0 (l : Launch) (D : gD) (d : Nat) (q : Int32 → gMem → Prop) (Γ : gC) (r0 : Nat) (μ : gMem) : Prop := G l D RX9 cX9_leads 1 (some .int) d (pI q) Γ 0 [(0, .ref (D.2.2 9 r0))] [] μ
set_option maxRecDepth 20000 in
set_option maxHeartbeats 4000000 in
theorem bl_X9_leads_0 {l : Launch} {D : gD} {d : Nat} {q : Int32 → gMem → Prop} {Γ : gC} {r0 : Nat} {μ : gMem} (hr0 : r0 < 1) (h : (μ.2.2 0 < 2) ∧ (∃ (d_2 : Nat) (q_3 : Int32 → gMem → Prop), d_2 < d ∧ Ctr l D d_2 yX8_greatest cX8_greatest 4 (some .int) [.ref (D.2.2 8 0), .int (μ.1 7 (μ.2.2 0) 0)] μ (pI q_3) ∧ ∀ (v_7 : Int32) (μ_6 : gMem), q_3 v_7 μ_6 → q v_7 μ_6)) : pt_X9_leads_0 l D d q Γ r0 μ := by
  unfold pt_X9_leads_0
  refine g_aload_n dX9_leads_0 rfl ?_
  refine g_gfR fl_9_38 rfl hr0 dX9_leads_1 ?_
  refine g_aload_n dX9_leads_4 rfl ?_
  obtain ⟨hR_1, h⟩ := h
  refine g_gfR fl_9_28 rfl hr0 dX9_leads_5 ?_
  refine g_gfI fi_9_108 hR_1 dX9_leads_8 ?_
  obtain ⟨d_2, q_3, hd_4, hc_5, h⟩ := h
  refine g_cV ca_X9_260 ob_8 hc_5 hd_4 (by decide) (by decide) rfl rfl (by first | exact Nat.le_of_ble_eq_true rfl | decide) dX9_leads_11 (kI (fun v_7 μ_6 hq_8 => ?_))
  have h := h v_7 μ_6 hq_8
  exact g_iret dX9_leads_14 rfl rfl ⟨_, rfl, h⟩
theorem en_X9_leads {l : Launch} {D : gD} {d : Nat} {q : Int32 → gMem → Prop} {r0 : Nat} {μ : gMem} (h : ∀ Γ : gC, pt_X9_leads_0 l D d q Γ r0 μ) : Ctr l D d yX9_leads cX9_leads 1 (some .int) [.ref (D.2.2 9 r0)] μ (pI q) :=
  Ctr_of rfl (by decide) (Nat.le_of_ble_eq_true rfl) (fun Γ => g_sub [0] rfl (h Γ))
def pt_X9_winner_0 (l : Launch) (D : gD) (d : Nat) (q : Int32 → gMem → Prop) (Γ : gC) (r0 : Nat) (x1 : Int32) (μ : gMem) : Prop := G l D RX9 cX9_winner 2 (some .int) d (pI q) Γ 0 [(0, .ref (D.2.2 9 r0)), (1, .int x1)] [] μ
set_option maxRecDepth 20000 in
set_option maxHeartbeats 4000000 in
theorem bl_X9_winner_0 {l : Launch} {D : gD} {d : Nat} {q : Int32 → gMem → Prop} {Γ : gC} {r0 : Nat} {x1 : Int32} {μ : gMem} (hr0 : r0 < 1) (h : (0 < d) ∧ ((((iw x1 (0 : Int32) (1 : Int32)) = 0) → q (-1 : Int32) μ) ∧ ((¬ (iw x1 (0 : Int32) (1 : Int32)) = 0) → (μ.2.2 0 < 2) ∧ (((¬ (μ.1 7 (μ.2.2 0) 0) = 0) → ((¬ x1 = (1 : Int32)) → ∃ (d_9 : Nat) (q_10 : gMem → Prop), d_9 < d ∧ Ctr l D d_9 yX9_lookAtAll cX9_lookAtAll 1 none [.ref (D.2.2 9 r0)] μ (pV q_10) ∧ ∀ (μ_13 : gMem), q_10 μ_13 → ∃ (d_16 : Nat) (q_17 : Int32 → gMem → Prop), d_16 < d ∧ Ctr l D d_16 yX9_daysToPot cX9_daysToPot 1 (some .int) [.ref (D.2.2 9 r0)] μ_13 (pI q_17) ∧ ∀ (v_21 : Int32) (μ_20 : gMem), q_17 v_21 μ_20 → ∃ (d_23 : Nat) (q_24 : gMem → Prop), d_23 < d ∧ Ctr l D d_23 yX9_passAsItGoes cX9_passAsItGoes 4 none [.ref (D.2.2 9 r0), .int v_21] μ_20 (pV q_24) ∧ ∀ (μ_27 : gMem), q_24 μ_27 → q (μ_27.1 8 2 4) μ_27) ∧ ((x1 = (1 : Int32)) → ∃ (d_30 : Nat) (q_31 : Int32 → gMem → Prop), d_30 < d ∧ Ctr l D d_30 yX9_daysToPot cX9_daysToPot 1 (some .int) [.ref (D.2.2 9 r0)] μ (pI q_31) ∧ ∀ (v_35 : Int32) (μ_34 : gMem), q_31 v_35 μ_34 → q v_35 μ_34)) ∧ (((μ.1 7 (μ.2.2 0) 0) = 0) → q (-1 : Int32) μ))))) : pt_X9_winner_0 l D d q Γ r0 x1 μ := by
  unfold pt_X9_winner_0
  refine g_iload_n dX9_winner_0 rfl ?_
  refine g_iconst (0 : Int32) dX9_winner_1 rfl ?_
  refine g_iconst (1 : Int32) dX9_winner_2 rfl ?_
  obtain ⟨hd_1, h⟩ := h
  refine g_callS ca_X9_194 (c_X9_isWithin (d := 0) (Nat.le_refl _) ) hd_1 (by decide) rfl rfl (by first | exact Nat.le_of_ble_eq_true rfl | decide) dX9_winner_3 (kI (fun v_2 μ_3 hq_4 => ?_))
  obtain ⟨ev_2, eμ_3⟩ := hq_4
  subst ev_2
  refine g_mem eμ_3 ?_
  refine g_if_eq (tgt := 19) dX9_winner_6 (by decide) (fun c_5 => ?_) (fun c_5 => ?_)
  · have h := h.1 c_5
    refine g_iconst (-1 : Int32) dX9_winner_19 rfl ?_
    exact g_iret dX9_winner_20 rfl rfl ⟨_, rfl, h⟩
  · have h := h.2 c_5
    refine g_aload_n dX9_winner_9 rfl ?_
    obtain ⟨hR_6, h⟩ := h
    refine g_gfR fl_9_28 rfl hr0 dX9_winner_10 ?_
    refine g_gfI fi_9_108 hR_6 dX9_winner_13 ?_
    refine g_if_ne (tgt := 21) dX9_winner_16 (by decide) (fun c_7 => ?_) (fun c_7 => ?_)
    · have h := h.1 c_7
      refine g_iload_n dX9_winner_21 rfl ?_
      refine g_iconst (1 : Int32) dX9_winner_22 rfl ?_
      refine g_icmp_ne (tgt := 31) dX9_winner_23 (by decide) (fun c_8 => ?_) (fun c_8 => ?_)
      · have h := h.1 c_8
        refine g_aload_n dX9_winner_31 rfl ?_
        obtain ⟨d_9, q_10, hd_11, hc_12, h⟩ := h
        refine g_cV ca_X9_268 ob_9 hc_12 hd_11 (by decide) hr0 rfl rfl (by first | exact Nat.le_of_ble_eq_true rfl | decide) dX9_winner_32 (kV (fun μ_13 hq_15 => ?_))
        have h := h μ_13 hq_15
        refine g_aload_n dX9_winner_35 rfl ?_
        refine g_aload_n dX9_winner_36 rfl ?_
        obtain ⟨d_16, q_17, hd_18, hc_19, h⟩ := h
        refine g_cV ca_X9_264 ob_9 hc_19 hd_18 (by decide) hr0 rfl rfl (by first | exact Nat.le_of_ble_eq_true rfl | decide) dX9_winner_37 (kI (fun v_21 μ_20 hq_22 => ?_))
        have h := h v_21 μ_20 hq_22
        obtain ⟨d_23, q_24, hd_25, hc_26, h⟩ := h
        refine g_cV ca_X9_247 ob_9 hc_26 hd_25 (by decide) hr0 rfl rfl (by first | exact Nat.le_of_ble_eq_true rfl | decide) dX9_winner_40 (kV (fun μ_27 hq_29 => ?_))
        have h := h μ_27 hq_29
        refine g_aload_n dX9_winner_43 rfl ?_
        refine g_gfR fl_9_45 rfl hr0 dX9_winner_44 ?_
        refine g_gfI fi_9_271 (by decide) dX9_winner_47 ?_
        exact g_iret dX9_winner_50 rfl rfl ⟨_, rfl, h⟩
      · have h := h.2 c_8
        refine g_aload_n dX9_winner_26 rfl ?_
        obtain ⟨d_30, q_31, hd_32, hc_33, h⟩ := h
        refine g_cV ca_X9_264 ob_9 hc_33 hd_32 (by decide) hr0 rfl rfl (by first | exact Nat.le_of_ble_eq_true rfl | decide) dX9_winner_27 (kI (fun v_35 μ_34 hq_36 => ?_))
        have h := h v_35 μ_34 hq_36
        exact g_iret dX9_winner_30 rfl rfl ⟨_, rfl, h⟩
    · have h := h.2 c_7
      refine g_iconst (-1 : Int32) dX9_winner_19 rfl ?_
      exact g_iret dX9_winner_20 rfl rfl ⟨_, rfl, h⟩
theorem en_X9_winner {l : Launch} {D : gD} {d : Nat} {q : Int32 → gMem → Prop} {r0 : Nat} {x1 : Int32} {μ : gMem} (h : ∀ Γ : gC, pt_X9_winner_0 l D d q Γ r0 x1 μ) : Ctr l D d yX9_winner cX9_winner 2 (some .int) [.ref (D.2.2 9 r0), .int x1] μ (pI q) :=
  Ctr_of rfl (by decide) (Nat.le_of_ble_eq_true rfl) (fun Γ => g_sub [0, 1] rfl (h Γ))
def pt_X9_needs_0 (l : Launch) (D : gD) (d : Nat) (q : Int32 → gMem → Prop) (Γ : gC) (r0 : Nat) (x1 : Int32) (μ : gMem) : Prop := G l D RX9 cX9_needs 2 (some .int) d (pI q) Γ 0 [(0, .ref (D.2.2 9 r0)), (1, .int x1)] [] μ
set_option maxRecDepth 20000 in
set_option maxHeartbeats 4000000 in
theorem bl_X9_needs_0 {l : Launch} {D : gD} {d : Nat} {q : Int32 → gMem → Prop} {Γ : gC} {r0 : Nat} {x1 : Int32} {μ : gMem} (hr0 : r0 < 1) (h : (1 < d) ∧ (μ.2.2 0 < 2) ∧ (((¬ (iw x1 (0 : Int32) (μ.1 7 (μ.2.2 0) 0 - (1 : Int32))) = 0) → (μ.2.2 0 < 2) ∧ ((0 < d) ∧ (μ.1 2 (μ.2.2 0) 8 = 0 ∨ μ.1 2 (μ.2.2 0) 8 = 1) ∧ ((((μ.1 2 (μ.2.2 0) 8) = 0) → ∃ (d_14 : Nat) (q_15 : Int32 → gMem → Prop), d_14 < d ∧ Ctr l D d_14 yX9_neededByHalves cX9_neededByHalves 6 (some .int) [.ref (D.2.2 9 r0), .int x1] μ (pI q_15) ∧ ∀ (v_19 : Int32) (μ_18 : gMem), q_15 v_19 μ_18 → q v_19 μ_18) ∧ ((¬ (μ.1 2 (μ.2.2 0) 8) = 0) → ∃ (d_21 : Nat) (q_22 : Int32 → gMem → Prop), d_21 < d ∧ Ctr l D d_21 yX9_neededOneByOne cX9_neededOneByOne 3 (some .int) [.ref (D.2.2 9 r0), .int x1] μ (pI q_22) ∧ ∀ (v_26 : Int32) (μ_25 : gMem), q_22 v_26 μ_25 → q v_26 μ_25)))) ∧ (((iw x1 (0 : Int32) (μ.1 7 (μ.2.2 0) 0 - (1 : Int32))) = 0) → q (-1 : Int32) μ))) : pt_X9_needs_0 l D d q Γ r0 x1 μ := by
  unfold pt_X9_needs_0
  refine g_aload_n dX9_needs_0 rfl ?_
  refine g_iload_n dX9_needs_1 rfl ?_
  obtain ⟨hd_1, hs_2, h⟩ := h
  refine g_cV ca_X9_121 ob_9 (c_X9_isMan (d := 1) (Nat.le_refl _) hr0 hs_2 ) hd_1 (by decide) hr0 rfl rfl (by first | exact Nat.le_of_ble_eq_true rfl | decide) dX9_needs_2 (kI (fun v_3 μ_4 hq_5 => ?_))
  obtain ⟨ev_3, eμ_4⟩ := hq_5
  subst ev_3
  refine g_mem eμ_4 ?_
  refine g_if_ne (tgt := 10) dX9_needs_5 (by decide) (fun c_6 => ?_) (fun c_6 => ?_)
  · have h := h.1 c_6
    refine g_aload_n dX9_needs_10 rfl ?_
    obtain ⟨hR_7, h⟩ := h
    refine g_gfR fl_9_28 rfl hr0 dX9_needs_11 ?_
    refine g_gfR fl_9_198 rfl hR_7 dX9_needs_14 ?_
    obtain ⟨hd_8, hs_9, h⟩ := h
    refine g_cV ca_X9_274 ob_2 (c_X2_mindsOthers (d := 0) (Nat.le_refl _) hR_7 hs_9 ) hd_8 (by decide) hR_7 rfl rfl (by first | exact Nat.le_of_ble_eq_true rfl | decide) dX9_needs_17 (kI (fun v_10 μ_11 hq_12 => ?_))
    obtain ⟨ev_10, eμ_11⟩ := hq_12
    subst ev_10
    refine g_mem eμ_11 ?_
    refine g_if_eq (tgt := 31) dX9_needs_20 (by decide) (fun c_13 => ?_) (fun c_13 => ?_)
    · have h := h.1 c_13
      refine g_aload_n dX9_needs_31 rfl ?_
      refine g_iload_n dX9_needs_32 rfl ?_
      obtain ⟨d_14, q_15, hd_16, hc_17, h⟩ := h
      refine g_cV ca_X9_280 ob_9 hc_17 hd_16 (by decide) hr0 rfl rfl (by first | exact Nat.le_of_ble_eq_true rfl | decide) dX9_needs_33 (kI (fun v_19 μ_18 hq_20 => ?_))
      have h := h v_19 μ_18 hq_20
      exact g_iret dX9_needs_36 rfl rfl ⟨_, rfl, h⟩
    · have h := h.2 c_13
      refine g_aload_n dX9_needs_23 rfl ?_
      refine g_iload_n dX9_needs_24 rfl ?_
      obtain ⟨d_21, q_22, hd_23, hc_24, h⟩ := h
      refine g_cV ca_X9_277 ob_9 hc_24 hd_23 (by decide) hr0 rfl rfl (by first | exact Nat.le_of_ble_eq_true rfl | decide) dX9_needs_25 (kI (fun v_26 μ_25 hq_27 => ?_))
      have h := h v_26 μ_25 hq_27
      refine g_goto (tgt := 36) dX9_needs_28 (by decide) ?_
      exact g_iret dX9_needs_36 rfl rfl ⟨_, rfl, h⟩
  · have h := h.2 c_6
    refine g_iconst (-1 : Int32) dX9_needs_8 rfl ?_
    exact g_iret dX9_needs_9 rfl rfl ⟨_, rfl, h⟩
theorem en_X9_needs {l : Launch} {D : gD} {d : Nat} {q : Int32 → gMem → Prop} {r0 : Nat} {x1 : Int32} {μ : gMem} (h : ∀ Γ : gC, pt_X9_needs_0 l D d q Γ r0 x1 μ) : Ctr l D d yX9_needs cX9_needs 2 (some .int) [.ref (D.2.2 9 r0), .int x1] μ (pI q) :=
  Ctr_of rfl (by decide) (Nat.le_of_ble_eq_true rfl) (fun Γ => g_sub [0, 1] rfl (h Γ))
def pt_X9_rests_0 (l : Launch) (D : gD) (d : Nat) (q : Int32 → gMem → Prop) (Γ : gC) (r0 : Nat) (x1 : Int32) (x2 : Int32) (μ : gMem) : Prop := G l D RX9 cX9_rests 5 (some .int) d (pI q) Γ 0 [(0, .ref (D.2.2 9 r0)), (1, .int x1), (2, .int x2)] [] μ
def pt_X9_rests_1 (l : Launch) (D : gD) (d : Nat) (q : Int32 → gMem → Prop) (Γ : gC) (r0 : Nat) (x1 : Int32) (x2 : Int32) (x3 : Int32) (x4 : Int32) (μ : gMem) : Prop := G l D RX9 cX9_rests 5 (some .int) d (pI q) Γ 34 [(0, .ref (D.2.2 9 r0)), (1, .int x1), (2, .int x2), (3, .int x3), (4, .int x4)] [] μ
def pt_X9_rests_2 (l : Launch) (D : gD) (d : Nat) (q : Int32 → gMem → Prop) (Γ : gC) (r0 : Nat) (x1 : Int32) (x2 : Int32) (x3 : Int32) (x4 : Int32) (μ : gMem) : Prop := G l D RX9 cX9_rests 5 (some .int) d (pI q) Γ 58 [(0, .ref (D.2.2 9 r0)), (1, .int x1), (2, .int x2), (3, .int x3), (4, .int x4)] [] μ
set_option maxRecDepth 20000 in
set_option maxHeartbeats 4000000 in
theorem bl_X9_rests_0 {l : Launch} {D : gD} {d : Nat} {q : Int32 → gMem → Prop} {Γ : gC} {r0 : Nat} {x1 : Int32} {x2 : Int32} {μ : gMem} (hr0 : r0 < 1) (h : (1 < d) ∧ (μ.2.2 0 < 2) ∧ ((((iw x1 (0 : Int32) (μ.1 7 (μ.2.2 0) 0 - (1 : Int32))) = 0) → q (-1 : Int32) μ) ∧ ((¬ (iw x1 (0 : Int32) (μ.1 7 (μ.2.2 0) 0 - (1 : Int32))) = 0) → (1 < d) ∧ (μ.2.2 0 < 2) ∧ ((((iw x2 (0 : Int32) (μ.1 7 (μ.2.2 0) 0 - (1 : Int32))) = 0) → q (-1 : Int32) μ) ∧ ((¬ (iw x2 (0 : Int32) (μ.1 7 (μ.2.2 0) 0 - (1 : Int32))) = 0) → ((¬ x1 = x2) → ∃ (d_14 : Nat) (q_15 : gMem → Prop), d_14 < d ∧ Ctr l D d_14 yX9_chooseFurther cX9_chooseFurther 4 none [.ref (D.2.2 9 r0), .int x1, .int x2] μ (pV q_15) ∧ ∀ (μ_18 : gMem), q_15 μ_18 → ∀ x3_21 : Int32, x3_21 = (0 : Int32) → ∀ x4_22 : Int32, x4_22 = (0 : Int32) → pt_X9_rests_1 l D d q Γ r0 x1 x2 x3_21 x4_22 μ_18) ∧ ((x1 = x2) → q (-1 : Int32) μ)))))) : pt_X9_rests_0 l D d q Γ r0 x1 x2 μ := by
  unfold pt_X9_rests_0
  refine g_aload_n dX9_rests_0 rfl ?_
  refine g_iload_n dX9_rests_1 rfl ?_
  obtain ⟨hd_1, hs_2, h⟩ := h
  refine g_cV ca_X9_121 ob_9 (c_X9_isMan (d := 1) (Nat.le_refl _) hr0 hs_2 ) hd_1 (by decide) hr0 rfl rfl (by first | exact Nat.le_of_ble_eq_true rfl | decide) dX9_rests_2 (kI (fun v_3 μ_4 hq_5 => ?_))
  obtain ⟨ev_3, eμ_4⟩ := hq_5
  subst ev_3
  refine g_mem eμ_4 ?_
  refine g_if_eq (tgt := 21) dX9_rests_5 (by decide) (fun c_6 => ?_) (fun c_6 => ?_)
  · have h := h.1 c_6
    refine g_iconst (-1 : Int32) dX9_rests_21 rfl ?_
    exact g_iret dX9_rests_22 rfl rfl ⟨_, rfl, h⟩
  · have h := h.2 c_6
    refine g_aload_n dX9_rests_8 rfl ?_
    refine g_iload_n dX9_rests_9 rfl ?_
    obtain ⟨hd_7, hs_8, h⟩ := h
    refine g_cV ca_X9_121 ob_9 (c_X9_isMan (d := 1) (Nat.le_refl _) hr0 hs_8 ) hd_7 (by decide) hr0 rfl rfl (by first | exact Nat.le_of_ble_eq_true rfl | decide) dX9_rests_10 (kI (fun v_9 μ_10 hq_11 => ?_))
    obtain ⟨ev_9, eμ_10⟩ := hq_11
    subst ev_9
    refine g_mem eμ_10 ?_
    refine g_if_eq (tgt := 21) dX9_rests_13 (by decide) (fun c_12 => ?_) (fun c_12 => ?_)
    · have h := h.1 c_12
      refine g_iconst (-1 : Int32) dX9_rests_21 rfl ?_
      exact g_iret dX9_rests_22 rfl rfl ⟨_, rfl, h⟩
    · have h := h.2 c_12
      refine g_iload_n dX9_rests_16 rfl ?_
      refine g_iload_n dX9_rests_17 rfl ?_
      refine g_icmp_ne (tgt := 23) dX9_rests_18 (by decide) (fun c_13 => ?_) (fun c_13 => ?_)
      · have h := h.1 c_13
        refine g_aload_n dX9_rests_23 rfl ?_
        refine g_iload_n dX9_rests_24 rfl ?_
        refine g_iload_n dX9_rests_25 rfl ?_
        obtain ⟨d_14, q_15, hd_16, hc_17, h⟩ := h
        refine g_cV ca_X9_283 ob_9 hc_17 hd_16 (by decide) hr0 rfl rfl (by first | exact Nat.le_of_ble_eq_true rfl | decide) dX9_rests_26 (kV (fun μ_18 hq_20 => ?_))
        have h := h μ_18 hq_20
        refine g_iconst (0 : Int32) dX9_rests_29 rfl ?_
        refine g_istore_n dX9_rests_30 (by decide) (fun x3_21 ex3_21 => g_sub (lv' := [(0, .ref (D.2.2 9 r0)), (1, .int x1), (2, .int x2), (3, .int x3_21)]) [1, 2, 3, 0] rfl ?_)
        have h := h x3_21 ex3_21
        refine g_iconst (0 : Int32) dX9_rests_31 rfl ?_
        refine g_istore dX9_rests_32 (by decide) (fun x4_22 ex4_22 => g_sub (lv' := [(0, .ref (D.2.2 9 r0)), (1, .int x1), (2, .int x2), (3, .int x3_21), (4, .int x4_22)]) [1, 2, 3, 4, 0] rfl ?_)
        have h := h x4_22 ex4_22
        exact g_sub [0, 1, 2, 3, 4] rfl h
      · have h := h.2 c_13
        refine g_iconst (-1 : Int32) dX9_rests_21 rfl ?_
        exact g_iret dX9_rests_22 rfl rfl ⟨_, rfl, h⟩
set_option maxRecDepth 20000 in
set_option maxHeartbeats 4000000 in
theorem bl_X9_rests_1 {l : Launch} {D : gD} {d : Nat} {q : Int32 → gMem → Prop} {Γ : gC} {r0 : Nat} {x1 : Int32} {x2 : Int32} {x3 : Int32} {x4 : Int32} {μ : gMem} (hr0 : r0 < 1) (h : (((nI 25) ≤ x4) → q x3 μ) ∧ ((¬ (nI 25) ≤ x4) → ∃ (d_2 : Nat) (q_3 : Int32 → gMem → Prop), d_2 < d ∧ Ctr l D d_2 yX9_isRest cX9_isRest 7 (some .boolean) [.ref (D.2.2 9 r0), .int x1, .int x2, .int x4] μ (pI q_3) ∧ ∀ (v_7 : Int32) (μ_6 : gMem), q_3 v_7 μ_6 → ((v_7 = 0) → pt_X9_rests_2 l D d q Γ r0 x1 x2 x3 x4 μ_6) ∧ ((¬ v_7 = 0) → ∀ x3_10 : Int32, x3_10 = x3 + (1 : Int32) → pt_X9_rests_2 l D d q Γ r0 x1 x2 x3_10 x4 μ_6))) : pt_X9_rests_1 l D d q Γ r0 x1 x2 x3 x4 μ := by
  unfold pt_X9_rests_1
  refine g_iload dX9_rests_34 rfl ?_
  refine g_aload_n dX9_rests_36 rfl ?_
  refine g_gfR fl_9_62 rfl hr0 dX9_rests_37 ?_
  refine g_alen hr0 rfl (by decide) dX9_rests_40 ?_
  refine g_icmp_ge (tgt := 64) dX9_rests_41 (by decide) (fun c_1 => ?_) (fun c_1 => ?_)
  · have h := h.1 c_1
    refine g_iload_n dX9_rests_64 rfl ?_
    exact g_iret dX9_rests_65 rfl rfl ⟨_, rfl, h⟩
  · have h := h.2 c_1
    refine g_aload_n dX9_rests_44 rfl ?_
    refine g_iload_n dX9_rests_45 rfl ?_
    refine g_iload_n dX9_rests_46 rfl ?_
    refine g_iload dX9_rests_47 rfl ?_
    obtain ⟨d_2, q_3, hd_4, hc_5, h⟩ := h
    refine g_cV ca_X9_287 ob_9 hc_5 hd_4 (by decide) hr0 rfl rfl (by first | exact Nat.le_of_ble_eq_true rfl | decide) dX9_rests_49 (kI (fun v_7 μ_6 hq_8 => ?_))
    have h := h v_7 μ_6 hq_8
    refine g_if_eq (tgt := 58) dX9_rests_52 (by decide) (fun c_9 => ?_) (fun c_9 => ?_)
    · have h := h.1 c_9
      exact g_sub [0, 1, 2, 3, 4] rfl h
    · have h := h.2 c_9
      refine g_iinc dX9_rests_55 rfl (by decide) (fun x3_10 ex3_10 => g_sub (lv' := [(0, .ref (D.2.2 9 r0)), (1, .int x1), (2, .int x2), (3, .int x3_10), (4, .int x4)]) [1, 2, 3, 0, 4] rfl ?_)
      have h := h x3_10 ex3_10
      exact g_sub [0, 1, 2, 3, 4] rfl h
set_option maxRecDepth 20000 in
set_option maxHeartbeats 4000000 in
theorem bl_X9_rests_2 {l : Launch} {D : gD} {d : Nat} {q : Int32 → gMem → Prop} {Γ : gC} {r0 : Nat} {x1 : Int32} {x2 : Int32} {x3 : Int32} {x4 : Int32} {μ : gMem} (hr0 : r0 < 1) (h : ∀ x4_1 : Int32, x4_1 = x4 + (1 : Int32) → pt_X9_rests_1 l D d q Γ r0 x1 x2 x3 x4_1 μ) : pt_X9_rests_2 l D d q Γ r0 x1 x2 x3 x4 μ := by
  unfold pt_X9_rests_2
  refine g_iinc dX9_rests_58 rfl (by decide) (fun x4_1 ex4_1 => g_sub (lv' := [(0, .ref (D.2.2 9 r0)), (1, .int x1), (2, .int x2), (3, .int x3), (4, .int x4_1)]) [1, 2, 3, 4, 0] rfl ?_)
  have h := h x4_1 ex4_1
  refine g_goto (tgt := 34) dX9_rests_61 (by decide) ?_
  exact g_sub [0, 1, 2, 3, 4] rfl h
theorem en_X9_rests {l : Launch} {D : gD} {d : Nat} {q : Int32 → gMem → Prop} {r0 : Nat} {x1 : Int32} {x2 : Int32} {μ : gMem} (h : ∀ Γ : gC, pt_X9_rests_0 l D d q Γ r0 x1 x2 μ) : Ctr l D d yX9_rests cX9_rests 5 (some .int) [.ref (D.2.2 9 r0), .int x1, .int x2] μ (pI q) :=
  Ctr_of rfl (by decide) (Nat.le_of_ble_eq_true rfl) (fun Γ => g_sub [0, 1, 2] rfl (h Γ))
def pt_X9_rest_0 (l : Launch) (D : gD) (d : Nat) (q : Int32 → gMem → Prop) (Γ : gC) (r0 : Nat) (x1 : Int32) (x2 : Int32) (x3 : Int32) (μ : gMem) : Prop := G l D RX9 cX9_rest 6 (some .int) d (pI q) Γ 0 [(0, .ref (D.2.2 9 r0)), (1, .int x1), (2, .int x2), (3, .int x3)] [] μ
def pt_X9_rest_1 (l : Launch) (D : gD) (d : Nat) (q : Int32 → gMem → Prop) (Γ : gC) (r0 : Nat) (x1 : Int32) (x2 : Int32) (x4 : Int32) (x5 : Int32) (μ : gMem) : Prop := G l D RX9 cX9_rest 6 (some .int) d (pI q) Γ 39 [(0, .ref (D.2.2 9 r0)), (1, .int x1), (2, .int x2), (4, .int x4), (5, .int x5)] [] μ
def pt_X9_rest_2 (l : Launch) (D : gD) (d : Nat) (q : Int32 → gMem → Prop) (Γ : gC) (r0 : Nat) (x1 : Int32) (x2 : Int32) (x4 : Int32) (x5 : Int32) (μ : gMem) : Prop := G l D RX9 cX9_rest 6 (some .int) d (pI q) Γ 81 [(0, .ref (D.2.2 9 r0)), (1, .int x1), (2, .int x2), (4, .int x4), (5, .int x5)] [] μ
set_option maxRecDepth 20000 in
set_option maxHeartbeats 4000000 in
theorem bl_X9_rest_0 {l : Launch} {D : gD} {d : Nat} {q : Int32 → gMem → Prop} {Γ : gC} {r0 : Nat} {x1 : Int32} {x2 : Int32} {x3 : Int32} {μ : gMem} (hr0 : r0 < 1) (h : (1 < d) ∧ (μ.2.2 0 < 2) ∧ ((((iw x1 (0 : Int32) (μ.1 7 (μ.2.2 0) 0 - (1 : Int32))) = 0) → q (-1 : Int32) μ) ∧ ((¬ (iw x1 (0 : Int32) (μ.1 7 (μ.2.2 0) 0 - (1 : Int32))) = 0) → (1 < d) ∧ (μ.2.2 0 < 2) ∧ ((((iw x2 (0 : Int32) (μ.1 7 (μ.2.2 0) 0 - (1 : Int32))) = 0) → q (-1 : Int32) μ) ∧ ((¬ (iw x2 (0 : Int32) (μ.1 7 (μ.2.2 0) 0 - (1 : Int32))) = 0) → ((x1 = x2) → q (-1 : Int32) μ) ∧ ((¬ x1 = x2) → ((0 ≤ x3) → ∃ (d_15 : Nat) (q_16 : gMem → Prop), d_15 < d ∧ Ctr l D d_15 yX9_chooseFurther cX9_chooseFurther 4 none [.ref (D.2.2 9 r0), .int x1, .int x2] μ (pV q_16) ∧ ∀ (μ_19 : gMem), q_16 μ_19 → ∀ x4_22 : Int32, x4_22 = x3 → ∀ x5_23 : Int32, x5_23 = (0 : Int32) → pt_X9_rest_1 l D d q Γ r0 x1 x2 x4_22 x5_23 μ_19) ∧ ((¬ 0 ≤ x3) → q (-1 : Int32) μ))))))) : pt_X9_rest_0 l D d q Γ r0 x1 x2 x3 μ := by
  unfold pt_X9_rest_0
  refine g_aload_n dX9_rest_0 rfl ?_
  refine g_iload_n dX9_rest_1 rfl ?_
  obtain ⟨hd_1, hs_2, h⟩ := h
  refine g_cV ca_X9_121 ob_9 (c_X9_isMan (d := 1) (Nat.le_refl _) hr0 hs_2 ) hd_1 (by decide) hr0 rfl rfl (by first | exact Nat.le_of_ble_eq_true rfl | decide) dX9_rest_2 (kI (fun v_3 μ_4 hq_5 => ?_))
  obtain ⟨ev_3, eμ_4⟩ := hq_5
  subst ev_3
  refine g_mem eμ_4 ?_
  refine g_if_eq (tgt := 25) dX9_rest_5 (by decide) (fun c_6 => ?_) (fun c_6 => ?_)
  · have h := h.1 c_6
    refine g_iconst (-1 : Int32) dX9_rest_25 rfl ?_
    exact g_iret dX9_rest_26 rfl rfl ⟨_, rfl, h⟩
  · have h := h.2 c_6
    refine g_aload_n dX9_rest_8 rfl ?_
    refine g_iload_n dX9_rest_9 rfl ?_
    obtain ⟨hd_7, hs_8, h⟩ := h
    refine g_cV ca_X9_121 ob_9 (c_X9_isMan (d := 1) (Nat.le_refl _) hr0 hs_8 ) hd_7 (by decide) hr0 rfl rfl (by first | exact Nat.le_of_ble_eq_true rfl | decide) dX9_rest_10 (kI (fun v_9 μ_10 hq_11 => ?_))
    obtain ⟨ev_9, eμ_10⟩ := hq_11
    subst ev_9
    refine g_mem eμ_10 ?_
    refine g_if_eq (tgt := 25) dX9_rest_13 (by decide) (fun c_12 => ?_) (fun c_12 => ?_)
    · have h := h.1 c_12
      refine g_iconst (-1 : Int32) dX9_rest_25 rfl ?_
      exact g_iret dX9_rest_26 rfl rfl ⟨_, rfl, h⟩
    · have h := h.2 c_12
      refine g_iload_n dX9_rest_16 rfl ?_
      refine g_iload_n dX9_rest_17 rfl ?_
      refine g_icmp_eq (tgt := 25) dX9_rest_18 (by decide) (fun c_13 => ?_) (fun c_13 => ?_)
      · have h := h.1 c_13
        refine g_iconst (-1 : Int32) dX9_rest_25 rfl ?_
        exact g_iret dX9_rest_26 rfl rfl ⟨_, rfl, h⟩
      · have h := h.2 c_13
        refine g_iload_n dX9_rest_21 rfl ?_
        refine g_if_ge (tgt := 27) dX9_rest_22 (by decide) (fun c_14 => ?_) (fun c_14 => ?_)
        · have h := h.1 c_14
          refine g_aload_n dX9_rest_27 rfl ?_
          refine g_iload_n dX9_rest_28 rfl ?_
          refine g_iload_n dX9_rest_29 rfl ?_
          obtain ⟨d_15, q_16, hd_17, hc_18, h⟩ := h
          refine g_cV ca_X9_283 ob_9 hc_18 hd_17 (by decide) hr0 rfl rfl (by first | exact Nat.le_of_ble_eq_true rfl | decide) dX9_rest_30 (kV (fun μ_19 hq_21 => ?_))
          have h := h μ_19 hq_21
          refine g_iload_n dX9_rest_33 rfl ?_
          refine g_istore dX9_rest_34 (by decide) (fun x4_22 ex4_22 => g_sub (lv' := [(0, .ref (D.2.2 9 r0)), (1, .int x1), (2, .int x2), (4, .int x4_22)]) [1, 2, 3, 0] rfl ?_)
          have h := h x4_22 ex4_22
          refine g_iconst (0 : Int32) dX9_rest_36 rfl ?_
          refine g_istore dX9_rest_37 (by decide) (fun x5_23 ex5_23 => g_sub (lv' := [(0, .ref (D.2.2 9 r0)), (1, .int x1), (2, .int x2), (4, .int x4_22), (5, .int x5_23)]) [1, 2, 3, 4, 0] rfl ?_)
          have h := h x5_23 ex5_23
          exact g_sub [0, 1, 2, 3, 4] rfl h
        · have h := h.2 c_14
          refine g_iconst (-1 : Int32) dX9_rest_25 rfl ?_
          exact g_iret dX9_rest_26 rfl rfl ⟨_, rfl, h⟩
set_option maxRecDepth 20000 in
set_option maxHeartbeats 4000000 in
theorem bl_X9_rest_1 {l : Launch} {D : gD} {d : Nat} {q : Int32 → gMem → Prop} {Γ : gC} {r0 : Nat} {x1 : Int32} {x2 : Int32} {x4 : Int32} {x5 : Int32} {μ : gMem} (hr0 : r0 < 1) (h : (((nI 25) ≤ x5) → q (-2 : Int32) μ) ∧ ((¬ (nI 25) ≤ x5) → ∃ (d_2 : Nat) (q_3 : Int32 → gMem → Prop), d_2 < d ∧ Ctr l D d_2 yX9_isRest cX9_isRest 7 (some .boolean) [.ref (D.2.2 9 r0), .int x1, .int x2, .int x5] μ (pI q_3) ∧ ∀ (v_7 : Int32) (μ_6 : gMem), q_3 v_7 μ_6 → ((v_7 = 0) → pt_X9_rest_2 l D d q Γ r0 x1 x2 x4 x5 μ_6) ∧ ((¬ v_7 = 0) → ((¬ x4 = 0) → ∀ x4_11 : Int32, x4_11 = x4 + (-1 : Int32) → pt_X9_rest_2 l D d q Γ r0 x1 x2 x4_11 x5 μ_6) ∧ ((x4 = 0) → q (((10 : Int32) * (x5 / (5 : Int32))) + (x5 - x5 / (5 : Int32) * (5 : Int32))) μ_6)))) : pt_X9_rest_1 l D d q Γ r0 x1 x2 x4 x5 μ := by
  unfold pt_X9_rest_1
  refine g_iload dX9_rest_39 rfl ?_
  refine g_aload_n dX9_rest_41 rfl ?_
  refine g_gfR fl_9_62 rfl hr0 dX9_rest_42 ?_
  refine g_alen hr0 rfl (by decide) dX9_rest_45 ?_
  refine g_icmp_ge (tgt := 87) dX9_rest_46 (by decide) (fun c_1 => ?_) (fun c_1 => ?_)
  · have h := h.1 c_1
    refine g_bipush (-2 : Int32) dX9_rest_87 rfl ?_
    exact g_iret dX9_rest_89 rfl rfl ⟨_, rfl, h⟩
  · have h := h.2 c_1
    refine g_aload_n dX9_rest_49 rfl ?_
    refine g_iload_n dX9_rest_50 rfl ?_
    refine g_iload_n dX9_rest_51 rfl ?_
    refine g_iload dX9_rest_52 rfl ?_
    obtain ⟨d_2, q_3, hd_4, hc_5, h⟩ := h
    refine g_cV ca_X9_287 ob_9 hc_5 hd_4 (by decide) hr0 rfl rfl (by first | exact Nat.le_of_ble_eq_true rfl | decide) dX9_rest_54 (kI (fun v_7 μ_6 hq_8 => ?_))
    have h := h v_7 μ_6 hq_8
    refine g_if_eq (tgt := 81) dX9_rest_57 (by decide) (fun c_9 => ?_) (fun c_9 => ?_)
    · have h := h.1 c_9
      exact g_sub [0, 1, 2, 3, 4] rfl h
    · have h := h.2 c_9
      refine g_iload dX9_rest_60 rfl ?_
      refine g_if_ne (tgt := 78) dX9_rest_62 (by decide) (fun c_10 => ?_) (fun c_10 => ?_)
      · have h := h.1 c_10
        refine g_iinc dX9_rest_78 rfl (by decide) (fun x4_11 ex4_11 => g_sub (lv' := [(0, .ref (D.2.2 9 r0)), (1, .int x1), (2, .int x2), (4, .int x4_11), (5, .int x5)]) [1, 2, 3, 0, 4] rfl ?_)
        have h := h x4_11 ex4_11
        exact g_sub [0, 1, 2, 3, 4] rfl h
      · have h := h.2 c_10
        refine g_bipush (10 : Int32) dX9_rest_65 rfl ?_
        refine g_iload dX9_rest_67 rfl ?_
        refine g_iconst (5 : Int32) dX9_rest_69 rfl ?_
        refine g_idiv dX9_rest_70 (by decide) ?_
        refine g_imul dX9_rest_71 ?_
        refine g_iload dX9_rest_72 rfl ?_
        refine g_iconst (5 : Int32) dX9_rest_74 rfl ?_
        refine g_irem dX9_rest_75 (by decide) ?_
        refine g_iadd dX9_rest_76 ?_
        exact g_iret dX9_rest_77 rfl rfl ⟨_, rfl, h⟩
set_option maxRecDepth 20000 in
set_option maxHeartbeats 4000000 in
theorem bl_X9_rest_2 {l : Launch} {D : gD} {d : Nat} {q : Int32 → gMem → Prop} {Γ : gC} {r0 : Nat} {x1 : Int32} {x2 : Int32} {x4 : Int32} {x5 : Int32} {μ : gMem} (hr0 : r0 < 1) (h : ∀ x5_1 : Int32, x5_1 = x5 + (1 : Int32) → pt_X9_rest_1 l D d q Γ r0 x1 x2 x4 x5_1 μ) : pt_X9_rest_2 l D d q Γ r0 x1 x2 x4 x5 μ := by
  unfold pt_X9_rest_2
  refine g_iinc dX9_rest_81 rfl (by decide) (fun x5_1 ex5_1 => g_sub (lv' := [(0, .ref (D.2.2 9 r0)), (1, .int x1), (2, .int x2), (4, .int x4), (5, .int x5_1)]) [1, 2, 3, 4, 0] rfl ?_)
  have h := h x5_1 ex5_1
  refine g_goto (tgt := 39) dX9_rest_84 (by decide) ?_
  exact g_sub [0, 1, 2, 3, 4] rfl h
theorem en_X9_rest {l : Launch} {D : gD} {d : Nat} {q : Int32 → gMem → Prop} {r0 : Nat} {x1 : Int32} {x2 : Int32} {x3 : Int32} {μ : gMem} (h : ∀ Γ : gC, pt_X9_rest_0 l D d q Γ r0 x1 x2 x3 μ) : Ctr l D d yX9_rest cX9_rest 6 (some .int) [.ref (D.2.2 9 r0), .int x1, .int x2, .int x3] μ (pI q) :=
  Ctr_of rfl (by decide) (Nat.le_of_ble_eq_true rfl) (fun Γ => g_sub [0, 1, 2, 3] rfl (h Γ))
def pt_X9_rank_0 (l : Launch) (D : gD) (d : Nat) (q : Int32 → gMem → Prop) (Γ : gC) (r0 : Nat) (x1 : Int32) (μ : gMem) : Prop := G l D RX9 cX9_rank 6 (some .int) d (pI q) Γ 0 [(0, .ref (D.2.2 9 r0)), (1, .int x1)] [] μ
def pt_X9_rank_1 (l : Launch) (D : gD) (d : Nat) (q : Int32 → gMem → Prop) (Γ : gC) (r0 : Nat) (x1 : Int32) (x2 : Int32) (x3 : Int32) (x4 : Int32) (μ : gMem) : Prop := G l D RX9 cX9_rank 6 (some .int) d (pI q) Γ 28 [(0, .ref (D.2.2 9 r0)), (1, .int x1), (2, .int x2), (3, .int x3), (4, .int x4)] [] μ
def pt_X9_rank_2 (l : Launch) (D : gD) (d : Nat) (q : Int32 → gMem → Prop) (Γ : gC) (r0 : Nat) (x1 : Int32) (x2 : Int32) (x3 : Int32) (x4 : Int32) (μ : gMem) : Prop := G l D RX9 cX9_rank 6 (some .int) d (pI q) Γ 73 [(0, .ref (D.2.2 9 r0)), (1, .int x1), (2, .int x2), (3, .int x3), (4, .int x4)] [] μ
def pt_X9_rank_3 (l : Launch) (D : gD) (d : Nat) (q : Int32 → gMem → Prop) (Γ : gC) (r0 : Nat) (x1 : Int32) (x2 : Int32) (x3 : Int32) (x4 : Int32) (μ : gMem) : Prop := G l D RX9 cX9_rank 6 (some .int) d (pI q) Γ 76 [(0, .ref (D.2.2 9 r0)), (1, .int x1), (2, .int x2), (3, .int x3), (4, .int x4)] [] μ
set_option maxRecDepth 20000 in
set_option maxHeartbeats 4000000 in
theorem bl_X9_rank_0 {l : Launch} {D : gD} {d : Nat} {q : Int32 → gMem → Prop} {Γ : gC} {r0 : Nat} {x1 : Int32} {μ : gMem} (hr0 : r0 < 1) (h : (1 < d) ∧ (μ.2.2 0 < 2) ∧ (((¬ (iw x1 (0 : Int32) (μ.1 7 (μ.2.2 0) 0 - (1 : Int32))) = 0) → ∃ j_7 : Nat, j_7 < 5 ∧ x1 = nI j_7 ∧ (∀ x2_9 : Int32, x2_9 = μ.1 4 (5 * 0 + j_7) 4 → ∀ x3_10 : Int32, x3_10 = (0 : Int32) → ∀ x4_11 : Int32, x4_11 = (0 : Int32) → pt_X9_rank_1 l D d q Γ r0 x1 x2_9 x3_10 x4_11 μ)) ∧ (((iw x1 (0 : Int32) (μ.1 7 (μ.2.2 0) 0 - (1 : Int32))) = 0) → q (-1 : Int32) μ))) : pt_X9_rank_0 l D d q Γ r0 x1 μ := by
  unfold pt_X9_rank_0
  refine g_aload_n dX9_rank_0 rfl ?_
  refine g_iload_n dX9_rank_1 rfl ?_
  obtain ⟨hd_1, hs_2, h⟩ := h
  refine g_cV ca_X9_121 ob_9 (c_X9_isMan (d := 1) (Nat.le_refl _) hr0 hs_2 ) hd_1 (by decide) hr0 rfl rfl (by first | exact Nat.le_of_ble_eq_true rfl | decide) dX9_rank_2 (kI (fun v_3 μ_4 hq_5 => ?_))
  obtain ⟨ev_3, eμ_4⟩ := hq_5
  subst ev_3
  refine g_mem eμ_4 ?_
  refine g_if_ne (tgt := 10) dX9_rank_5 (by decide) (fun c_6 => ?_) (fun c_6 => ?_)
  · have h := h.1 c_6
    refine g_aload_n dX9_rank_10 rfl ?_
    refine g_gfR fl_9_38 rfl hr0 dX9_rank_11 ?_
    refine g_gfR fl_9_132 rfl (by decide) dX9_rank_14 ?_
    refine g_iload_n dX9_rank_17 rfl ?_
    obtain ⟨j_7, hj_7, ej_7, h⟩ := h
    refine g_aald j_7 (by decide) hj_7 ej_7 dX9_rank_18 ?_
    have hp_8 : 5 * 0 + j_7 < 15 := by have : 0 < 3 := (by decide); omega
    refine g_gfI fi_9_153 hp_8 dX9_rank_19 ?_
    refine g_istore_n dX9_rank_22 (by decide) (fun x2_9 ex2_9 => g_sub (lv' := [(0, .ref (D.2.2 9 r0)), (1, .int x1), (2, .int x2_9)]) [1, 2, 0] rfl ?_)
    have h := h x2_9 ex2_9
    refine g_iconst (0 : Int32) dX9_rank_23 rfl ?_
    refine g_istore_n dX9_rank_24 (by decide) (fun x3_10 ex3_10 => g_sub (lv' := [(0, .ref (D.2.2 9 r0)), (1, .int x1), (2, .int x2_9), (3, .int x3_10)]) [1, 2, 3, 0] rfl ?_)
    have h := h x3_10 ex3_10
    refine g_iconst (0 : Int32) dX9_rank_25 rfl ?_
    refine g_istore dX9_rank_26 (by decide) (fun x4_11 ex4_11 => g_sub (lv' := [(0, .ref (D.2.2 9 r0)), (1, .int x1), (2, .int x2_9), (3, .int x3_10), (4, .int x4_11)]) [1, 2, 3, 4, 0] rfl ?_)
    have h := h x4_11 ex4_11
    exact g_sub [0, 1, 2, 3, 4] rfl h
  · have h := h.2 c_6
    refine g_iconst (-1 : Int32) dX9_rank_8 rfl ?_
    exact g_iret dX9_rank_9 rfl rfl ⟨_, rfl, h⟩
set_option maxRecDepth 20000 in
set_option maxHeartbeats 4000000 in
theorem bl_X9_rank_1 {l : Launch} {D : gD} {d : Nat} {q : Int32 → gMem → Prop} {Γ : gC} {r0 : Nat} {x1 : Int32} {x2 : Int32} {x3 : Int32} {x4 : Int32} {μ : gMem} (hr0 : r0 < 1) (h : (μ.2.2 0 < 2) ∧ ((((μ.1 7 (μ.2.2 0) 0) ≤ x4) → q x3 μ) ∧ ((¬ (μ.1 7 (μ.2.2 0) 0) ≤ x4) → ∃ j_3 : Nat, j_3 < 5 ∧ x4 = nI j_3 ∧ (∀ x5_5 : Int32, x5_5 = μ.1 4 (5 * 0 + j_3) 4 → ((x2 < x5_5) → pt_X9_rank_2 l D d q Γ r0 x1 x2 x3 x4 μ) ∧ ((¬ x2 < x5_5) → ((¬ x5_5 = x2) → pt_X9_rank_3 l D d q Γ r0 x1 x2 x3 x4 μ) ∧ ((x5_5 = x2) → ((x1 ≤ x4) → pt_X9_rank_3 l D d q Γ r0 x1 x2 x3 x4 μ) ∧ ((¬ x1 ≤ x4) → pt_X9_rank_2 l D d q Γ r0 x1 x2 x3 x4 μ))))))) : pt_X9_rank_1 l D d q Γ r0 x1 x2 x3 x4 μ := by
  unfold pt_X9_rank_1
  refine g_iload dX9_rank_28 rfl ?_
  refine g_aload_n dX9_rank_30 rfl ?_
  obtain ⟨hR_1, h⟩ := h
  refine g_gfR fl_9_28 rfl hr0 dX9_rank_31 ?_
  refine g_gfI fi_9_108 hR_1 dX9_rank_34 ?_
  refine g_icmp_ge (tgt := 82) dX9_rank_37 (by decide) (fun c_2 => ?_) (fun c_2 => ?_)
  · have h := h.1 c_2
    refine g_iload_n dX9_rank_82 rfl ?_
    exact g_iret dX9_rank_83 rfl rfl ⟨_, rfl, h⟩
  · have h := h.2 c_2
    refine g_aload_n dX9_rank_40 rfl ?_
    refine g_gfR fl_9_38 rfl hr0 dX9_rank_41 ?_
    refine g_gfR fl_9_132 rfl (by decide) dX9_rank_44 ?_
    refine g_iload dX9_rank_47 rfl ?_
    obtain ⟨j_3, hj_3, ej_3, h⟩ := h
    refine g_aald j_3 (by decide) hj_3 ej_3 dX9_rank_49 ?_
    have hp_4 : 5 * 0 + j_3 < 15 := by have : 0 < 3 := (by decide); omega
    refine g_gfI fi_9_153 hp_4 dX9_rank_50 ?_
    refine g_istore dX9_rank_53 (by decide) (fun x5_5 ex5_5 => g_sub (lv' := [(0, .ref (D.2.2 9 r0)), (1, .int x1), (2, .int x2), (3, .int x3), (4, .int x4), (5, .int x5_5)]) [1, 2, 3, 4, 5, 0] rfl ?_)
    have h := h x5_5 ex5_5
    refine g_iload dX9_rank_55 rfl ?_
    refine g_iload_n dX9_rank_57 rfl ?_
    refine g_icmp_gt (tgt := 73) dX9_rank_58 (by decide) (fun c_6 => ?_) (fun c_6 => ?_)
    · have h := h.1 c_6
      exact g_sub [0, 1, 2, 3, 4] rfl h
    · have h := h.2 c_6
      refine g_iload dX9_rank_61 rfl ?_
      refine g_iload_n dX9_rank_63 rfl ?_
      refine g_icmp_ne (tgt := 76) dX9_rank_64 (by decide) (fun c_7 => ?_) (fun c_7 => ?_)
      · have h := h.1 c_7
        exact g_sub [0, 1, 2, 3, 4] rfl h
      · have h := h.2 c_7
        refine g_iload dX9_rank_67 rfl ?_
        refine g_iload_n dX9_rank_69 rfl ?_
        refine g_icmp_ge (tgt := 76) dX9_rank_70 (by decide) (fun c_8 => ?_) (fun c_8 => ?_)
        · have h := h.1 c_8
          exact g_sub [0, 1, 2, 3, 4] rfl h
        · have h := h.2 c_8
          exact g_sub [0, 1, 2, 3, 4] rfl h
set_option maxRecDepth 20000 in
set_option maxHeartbeats 4000000 in
theorem bl_X9_rank_2 {l : Launch} {D : gD} {d : Nat} {q : Int32 → gMem → Prop} {Γ : gC} {r0 : Nat} {x1 : Int32} {x2 : Int32} {x3 : Int32} {x4 : Int32} {μ : gMem} (hr0 : r0 < 1) (h : ∀ x3_1 : Int32, x3_1 = x3 + (1 : Int32) → pt_X9_rank_3 l D d q Γ r0 x1 x2 x3_1 x4 μ) : pt_X9_rank_2 l D d q Γ r0 x1 x2 x3 x4 μ := by
  unfold pt_X9_rank_2
  refine g_iinc dX9_rank_73 rfl (by decide) (fun x3_1 ex3_1 => g_sub (lv' := [(0, .ref (D.2.2 9 r0)), (1, .int x1), (2, .int x2), (3, .int x3_1), (4, .int x4)]) [1, 2, 3, 0, 4] rfl ?_)
  have h := h x3_1 ex3_1
  exact g_sub [0, 1, 2, 3, 4] rfl h
set_option maxRecDepth 20000 in
set_option maxHeartbeats 4000000 in
theorem bl_X9_rank_3 {l : Launch} {D : gD} {d : Nat} {q : Int32 → gMem → Prop} {Γ : gC} {r0 : Nat} {x1 : Int32} {x2 : Int32} {x3 : Int32} {x4 : Int32} {μ : gMem} (hr0 : r0 < 1) (h : ∀ x4_1 : Int32, x4_1 = x4 + (1 : Int32) → pt_X9_rank_1 l D d q Γ r0 x1 x2 x3 x4_1 μ) : pt_X9_rank_3 l D d q Γ r0 x1 x2 x3 x4 μ := by
  unfold pt_X9_rank_3
  refine g_iinc dX9_rank_76 rfl (by decide) (fun x4_1 ex4_1 => g_sub (lv' := [(0, .ref (D.2.2 9 r0)), (1, .int x1), (2, .int x2), (3, .int x3), (4, .int x4_1)]) [1, 2, 3, 4, 0] rfl ?_)
  have h := h x4_1 ex4_1
  refine g_goto (tgt := 28) dX9_rank_79 (by decide) ?_
  exact g_sub [0, 1, 2, 3, 4] rfl h
theorem en_X9_rank {l : Launch} {D : gD} {d : Nat} {q : Int32 → gMem → Prop} {r0 : Nat} {x1 : Int32} {μ : gMem} (h : ∀ Γ : gC, pt_X9_rank_0 l D d q Γ r0 x1 μ) : Ctr l D d yX9_rank cX9_rank 6 (some .int) [.ref (D.2.2 9 r0), .int x1] μ (pI q) :=
  Ctr_of rfl (by decide) (Nat.le_of_ble_eq_true rfl) (fun Γ => g_sub [0, 1] rfl (h Γ))
def pt_X9_falls_0 (l : Launch) (D : gD) (d : Nat) (q : Int32 → gMem → Prop) (Γ : gC) (r0 : Nat) (x1 : Int32) (x2 : Int32) (μ : gMem) : Prop := G l D RX9 cX9_falls 4 (some .int) d (pI q) Γ 0 [(0, .ref (D.2.2 9 r0)), (1, .int x1), (2, .int x2)] [] μ
set_option maxRecDepth 20000 in
set_option maxHeartbeats 4000000 in
theorem bl_X9_falls_0 {l : Launch} {D : gD} {d : Nat} {q : Int32 → gMem → Prop} {Γ : gC} {r0 : Nat} {x1 : Int32} {x2 : Int32} {μ : gMem} (hr0 : r0 < 1) (h : (1 < d) ∧ (μ.2.2 0 < 2) ∧ ((((iw x1 (0 : Int32) (μ.1 7 (μ.2.2 0) 0 - (1 : Int32))) = 0) → q (-1 : Int32) μ) ∧ ((¬ (iw x1 (0 : Int32) (μ.1 7 (μ.2.2 0) 0 - (1 : Int32))) = 0) → (0 < d) ∧ (((¬ (iw x2 (0 : Int32) (99 : Int32)) = 0) → ∃ (d_12 : Nat) (q_13 : Nat → gMem → Prop), d_12 < d ∧ Ctr l D d_12 yX9_lookAhead cX9_lookAhead 2 (some (.object "WristGoal$Person")) [.ref (D.2.2 9 r0), .int x1] μ (pR D 4 q_13) ∧ ∀ (v_17 : Nat) (μ_16 : gMem), v_17 < 15 → q_13 v_17 μ_16 → ∃ (d_19 : Nat) (q_20 : gMem → Prop), d_19 < d ∧ Ctr l D d_19 yX9_passAsItGoes cX9_passAsItGoes 4 none [.ref (D.2.2 9 r0), .int x2] μ_16 (pV q_20) ∧ ∀ (μ_23 : gMem), q_20 μ_23 → ∃ j_26 : Nat, j_26 < 5 ∧ x1 = nI j_26 ∧ (q ((μ_23.1 4 v_17 3) - (μ_23.1 4 (5 * 0 + j_26) 3)) μ_23)) ∧ (((iw x2 (0 : Int32) (99 : Int32)) = 0) → q (-1 : Int32) μ))))) : pt_X9_falls_0 l D d q Γ r0 x1 x2 μ := by
  unfold pt_X9_falls_0
  refine g_aload_n dX9_falls_0 rfl ?_
  refine g_iload_n dX9_falls_1 rfl ?_
  obtain ⟨hd_1, hs_2, h⟩ := h
  refine g_cV ca_X9_121 ob_9 (c_X9_isMan (d := 1) (Nat.le_refl _) hr0 hs_2 ) hd_1 (by decide) hr0 rfl rfl (by first | exact Nat.le_of_ble_eq_true rfl | decide) dX9_falls_2 (kI (fun v_3 μ_4 hq_5 => ?_))
  obtain ⟨ev_3, eμ_4⟩ := hq_5
  subst ev_3
  refine g_mem eμ_4 ?_
  refine g_if_eq (tgt := 18) dX9_falls_5 (by decide) (fun c_6 => ?_) (fun c_6 => ?_)
  · have h := h.1 c_6
    refine g_iconst (-1 : Int32) dX9_falls_18 rfl ?_
    exact g_iret dX9_falls_19 rfl rfl ⟨_, rfl, h⟩
  · have h := h.2 c_6
    refine g_iload_n dX9_falls_8 rfl ?_
    refine g_iconst (0 : Int32) dX9_falls_9 rfl ?_
    refine g_bipush (99 : Int32) dX9_falls_10 rfl ?_
    obtain ⟨hd_7, h⟩ := h
    refine g_callS ca_X9_194 (c_X9_isWithin (d := 0) (Nat.le_refl _) ) hd_7 (by decide) rfl rfl (by first | exact Nat.le_of_ble_eq_true rfl | decide) dX9_falls_12 (kI (fun v_8 μ_9 hq_10 => ?_))
    obtain ⟨ev_8, eμ_9⟩ := hq_10
    subst ev_8
    refine g_mem eμ_9 ?_
    refine g_if_ne (tgt := 20) dX9_falls_15 (by decide) (fun c_11 => ?_) (fun c_11 => ?_)
    · have h := h.1 c_11
      refine g_aload_n dX9_falls_20 rfl ?_
      refine g_iload_n dX9_falls_21 rfl ?_
      obtain ⟨d_12, q_13, hd_14, hc_15, h⟩ := h
      refine g_cV ca_X9_243 ob_9 hc_15 hd_14 (by decide) hr0 rfl rfl (by first | exact Nat.le_of_ble_eq_true rfl | decide) dX9_falls_22 (kR (fun v_17 μ_16 hv_17 hq_18 => ?_))
      have h := h v_17 μ_16 hv_17 hq_18
      refine g_astore_n dX9_falls_25 (by decide) (g_sub (lv' := [(0, .ref (D.2.2 9 r0)), (1, .int x1), (2, .int x2), (3, .ref (D.2.2 4 v_17))]) [1, 2, 3, 0] rfl ?_)
      refine g_aload_n dX9_falls_26 rfl ?_
      refine g_iload_n dX9_falls_27 rfl ?_
      obtain ⟨d_19, q_20, hd_21, hc_22, h⟩ := h
      refine g_cV ca_X9_247 ob_9 hc_22 hd_21 (by decide) hr0 rfl rfl (by first | exact Nat.le_of_ble_eq_true rfl | decide) dX9_falls_28 (kV (fun μ_23 hq_25 => ?_))
      have h := h μ_23 hq_25
      refine g_aload_n dX9_falls_31 rfl ?_
      refine g_gfI fi_9_150 hv_17 dX9_falls_32 ?_
      refine g_aload_n dX9_falls_35 rfl ?_
      refine g_gfR fl_9_38 rfl hr0 dX9_falls_36 ?_
      refine g_gfR fl_9_132 rfl (by decide) dX9_falls_39 ?_
      refine g_iload_n dX9_falls_42 rfl ?_
      obtain ⟨j_26, hj_26, ej_26, h⟩ := h
      refine g_aald j_26 (by decide) hj_26 ej_26 dX9_falls_43 ?_
      have hp_27 : 5 * 0 + j_26 < 15 := by have : 0 < 3 := (by decide); omega
      refine g_gfI fi_9_150 hp_27 dX9_falls_44 ?_
      refine g_isub dX9_falls_47 ?_
      exact g_iret dX9_falls_48 rfl rfl ⟨_, rfl, h⟩
    · have h := h.2 c_11
      refine g_iconst (-1 : Int32) dX9_falls_18 rfl ?_
      exact g_iret dX9_falls_19 rfl rfl ⟨_, rfl, h⟩
theorem en_X9_falls {l : Launch} {D : gD} {d : Nat} {q : Int32 → gMem → Prop} {r0 : Nat} {x1 : Int32} {x2 : Int32} {μ : gMem} (h : ∀ Γ : gC, pt_X9_falls_0 l D d q Γ r0 x1 x2 μ) : Ctr l D d yX9_falls cX9_falls 4 (some .int) [.ref (D.2.2 9 r0), .int x1, .int x2] μ (pI q) :=
  Ctr_of rfl (by decide) (Nat.le_of_ble_eq_true rfl) (fun Γ => g_sub [0, 1, 2] rfl (h Γ))
