def pt_X10_puts_0 (l : Launch) (D : gD) (d : Nat) (q : gMem → Prop) (Γ : gC) (r0 : Nat) (x1 : Int32) (x2 : Int32) (μ : gMem) : Prop := G l D RX10 cX10_puts 3 none d (pV q) Γ 0 [(0, .ref (D.2.2 10 r0)), (1, .int x1), (2, .int x2)] [] μ
set_option maxRecDepth 20000 in
set_option maxHeartbeats 4000000 in
theorem bl_X10_puts_0 {l : Launch} {D : gD} {d : Nat} {q : gMem → Prop} {Γ : gC} {r0 : Nat} {x1 : Int32} {x2 : Int32} {μ : gMem} (hr0 : r0 < 1) (h : (((μ.1 10 r0 24) = 0) → (0 < d) ∧ (∃ j_6 : Nat, j_6 < 128 ∧ (64 : Int32) + (μ.1 707 r0 19) = nI j_6 ∧ (∀ μ_7 : gMem, μ_7 = gsI μ 719 r0 j_6 x1 → (0 < d) ∧ (∃ j_12 : Nat, j_12 < 128 ∧ (64 : Int32) + (μ_7.1 707 r0 19) = nI j_12 ∧ (∀ μ_13 : gMem, μ_13 = gsI μ_7 720 r0 j_12 x2 → (0 < d) ∧ ((0 < d) ∧ (∀ μ_20 : gMem, μ_20 = gsI μ_13 707 r0 19 ((μ_13.1 707 r0 19) + (1 : Int32)) → q μ_20))))))) ∧ ((¬ (μ.1 10 r0 24) = 0) → q μ)) : pt_X10_puts_0 l D d q Γ r0 x1 x2 μ := by
  unfold pt_X10_puts_0
  refine g_aload_n dX10_puts_0 rfl ?_
  refine g_gfI fi_10_199 hr0 dX10_puts_1 ?_
  refine g_if_eq (tgt := 8) dX10_puts_4 (by decide) (fun c_1 => ?_) (fun c_1 => ?_)
  · have h := h.1 c_1
    refine g_aload_n dX10_puts_8 rfl ?_
    refine g_gfR fl_10_49 rfl hr0 dX10_puts_9 ?_
    refine g_bipush (64 : Int32) dX10_puts_12 rfl ?_
    refine g_aload_n dX10_puts_14 rfl ?_
    refine g_bipush (9 : Int32) dX10_puts_15 rfl ?_
    obtain ⟨hd_2, h⟩ := h
    refine g_cV ca_X10_215 ob_10 (c_X10_fresher (d := 0) (Nat.le_refl _) hr0 (n := 9) (by decide) rfl) hd_2 (by decide) hr0 rfl rfl (by first | exact Nat.le_of_ble_eq_true rfl | decide) dX10_puts_17 (kI (fun v_3 μ_4 hq_5 => ?_))
    obtain ⟨ev_3, eμ_4⟩ := hq_5
    subst ev_3
    refine g_mem eμ_4 ?_
    refine g_iadd dX10_puts_20 ?_
    refine g_iload_n dX10_puts_21 rfl ?_
    obtain ⟨j_6, hj_6, ej_6, h⟩ := h
    refine g_iast j_6 hr0 rfl hj_6 (by decide) ej_6 dX10_puts_22 ?_
    obtain ⟨μ_7, eμ_7⟩ : ∃ z : gMem, z = gsI μ 719 r0 j_6 x1 := ⟨_, rfl⟩
    have h := h μ_7 eμ_7
    refine g_mem eμ_7.symm ?_
    refine g_aload_n dX10_puts_23 rfl ?_
    refine g_gfR fl_10_52 rfl hr0 dX10_puts_24 ?_
    refine g_bipush (64 : Int32) dX10_puts_27 rfl ?_
    refine g_aload_n dX10_puts_29 rfl ?_
    refine g_bipush (9 : Int32) dX10_puts_30 rfl ?_
    obtain ⟨hd_8, h⟩ := h
    refine g_cV ca_X10_215 ob_10 (c_X10_fresher (d := 0) (Nat.le_refl _) hr0 (n := 9) (by decide) rfl) hd_8 (by decide) hr0 rfl rfl (by first | exact Nat.le_of_ble_eq_true rfl | decide) dX10_puts_32 (kI (fun v_9 μ_10 hq_11 => ?_))
    obtain ⟨ev_9, eμ_10⟩ := hq_11
    subst ev_9
    refine g_mem eμ_10 ?_
    refine g_iadd dX10_puts_35 ?_
    refine g_iload_n dX10_puts_36 rfl ?_
    obtain ⟨j_12, hj_12, ej_12, h⟩ := h
    refine g_iast j_12 hr0 rfl hj_12 (by decide) ej_12 dX10_puts_37 ?_
    obtain ⟨μ_13, eμ_13⟩ : ∃ z : gMem, z = gsI μ_7 720 r0 j_12 x2 := ⟨_, rfl⟩
    have h := h μ_13 eμ_13
    refine g_mem eμ_13.symm ?_
    refine g_aload_n dX10_puts_38 rfl ?_
    refine g_bipush (9 : Int32) dX10_puts_39 rfl ?_
    refine g_aload_n dX10_puts_41 rfl ?_
    refine g_bipush (9 : Int32) dX10_puts_42 rfl ?_
    obtain ⟨hd_14, h⟩ := h
    refine g_cV ca_X10_215 ob_10 (c_X10_fresher (d := 0) (Nat.le_refl _) hr0 (n := 9) (by decide) rfl) hd_14 (by decide) hr0 rfl rfl (by first | exact Nat.le_of_ble_eq_true rfl | decide) dX10_puts_44 (kI (fun v_15 μ_16 hq_17 => ?_))
    obtain ⟨ev_15, eμ_16⟩ := hq_17
    subst ev_15
    refine g_mem eμ_16 ?_
    refine g_iconst (1 : Int32) dX10_puts_47 rfl ?_
    refine g_iadd dX10_puts_48 ?_
    obtain ⟨hd_18, h⟩ := h
    refine g_cV ca_X10_233 ob_10 (c_X10_reads (d := 0) (Nat.le_refl _) hr0 (n := 9) (by decide) rfl) hd_18 (by decide) hr0 rfl rfl (by first | exact Nat.le_of_ble_eq_true rfl | decide) dX10_puts_49 (kV (fun μ_20 hq_21 => ?_))
    have h := h μ_20 hq_21
    exact g_vret dX10_puts_52 rfl ⟨rfl, h⟩
  · have h := h.2 c_1
    exact g_vret dX10_puts_7 rfl ⟨rfl, h⟩
theorem en_X10_puts {l : Launch} {D : gD} {d : Nat} {q : gMem → Prop} {r0 : Nat} {x1 : Int32} {x2 : Int32} {μ : gMem} (h : ∀ Γ : gC, pt_X10_puts_0 l D d q Γ r0 x1 x2 μ) : Ctr l D d yX10_puts cX10_puts 3 none [.ref (D.2.2 10 r0), .int x1, .int x2] μ (pV q) :=
  Ctr_of rfl (by decide) (Nat.le_of_ble_eq_true rfl) (fun Γ => g_sub [0, 1, 2] rfl (h Γ))
def pt_X10_knot_0 (l : Launch) (D : gD) (d : Nat) (q : gMem → Prop) (Γ : gC) (r0 : Nat) (μ : gMem) : Prop := G l D RX10 cX10_knot 1 none d (pV q) Γ 0 [(0, .ref (D.2.2 10 r0))] [] μ
set_option maxRecDepth 20000 in
set_option maxHeartbeats 4000000 in
theorem bl_X10_knot_0 {l : Launch} {D : gD} {d : Nat} {q : gMem → Prop} {Γ : gC} {r0 : Nat} {μ : gMem} (hr0 : r0 < 1) (h : (((μ.1 10 r0 24) = 0) → ((¬ (μ.1 10 r0 29) = (64 : Int32)) → ∀ μ_3 : gMem, μ_3 = gsI μ 10 r0 29 ((μ.1 10 r0 29) + (1 : Int32)) → q μ_3) ∧ (((μ.1 10 r0 29) = (64 : Int32)) → ∃ (d_4 : Nat) (q_5 : gMem → Prop), d_4 < d ∧ Ctr l D d_4 yX10_wrong cX10_wrong 2 none [.ref (D.2.2 10 r0), .int (2 : Int32)] μ (pV q_5) ∧ ∀ (μ_8 : gMem), q_5 μ_8 → q μ_8)) ∧ ((¬ (μ.1 10 r0 24) = 0) → q μ)) : pt_X10_knot_0 l D d q Γ r0 μ := by
  unfold pt_X10_knot_0
  refine g_aload_n dX10_knot_0 rfl ?_
  refine g_gfI fi_10_199 hr0 dX10_knot_1 ?_
  refine g_if_eq (tgt := 8) dX10_knot_4 (by decide) (fun c_1 => ?_) (fun c_1 => ?_)
  · have h := h.1 c_1
    refine g_aload_n dX10_knot_8 rfl ?_
    refine g_gfI fi_10_258 hr0 dX10_knot_9 ?_
    refine g_bipush (64 : Int32) dX10_knot_12 rfl ?_
    refine g_icmp_ne (tgt := 25) dX10_knot_14 (by decide) (fun c_2 => ?_) (fun c_2 => ?_)
    · have h := h.1 c_2
      refine g_aload_n dX10_knot_25 rfl ?_
      refine g_dup dX10_knot_26 rfl ?_
      refine g_gfI fi_10_258 hr0 dX10_knot_27 ?_
      refine g_iconst (1 : Int32) dX10_knot_30 rfl ?_
      refine g_iadd dX10_knot_31 ?_
      refine g_pfI fi_10_258 hr0 rfl rfl dX10_knot_32 ?_
      obtain ⟨μ_3, eμ_3⟩ : ∃ z : gMem, z = gsI μ 10 r0 29 ((μ.1 10 r0 29) + (1 : Int32)) := ⟨_, rfl⟩
      have h := h μ_3 eμ_3
      refine g_mem eμ_3.symm ?_
      exact g_vret dX10_knot_35 rfl ⟨rfl, h⟩
    · have h := h.2 c_2
      refine g_aload_n dX10_knot_17 rfl ?_
      refine g_iconst (2 : Int32) dX10_knot_18 rfl ?_
      obtain ⟨d_4, q_5, hd_6, hc_7, h⟩ := h
      refine g_cV ca_X10_208 ob_10 hc_7 hd_6 (by decide) hr0 rfl rfl (by first | exact Nat.le_of_ble_eq_true rfl | decide) dX10_knot_19 (kV (fun μ_8 hq_10 => ?_))
      have h := h μ_8 hq_10
      refine g_goto (tgt := 35) dX10_knot_22 (by decide) ?_
      exact g_vret dX10_knot_35 rfl ⟨rfl, h⟩
  · have h := h.2 c_1
    exact g_vret dX10_knot_7 rfl ⟨rfl, h⟩
theorem en_X10_knot {l : Launch} {D : gD} {d : Nat} {q : gMem → Prop} {r0 : Nat} {μ : gMem} (h : ∀ Γ : gC, pt_X10_knot_0 l D d q Γ r0 μ) : Ctr l D d yX10_knot cX10_knot 1 none [.ref (D.2.2 10 r0)] μ (pV q) :=
  Ctr_of rfl (by decide) (Nat.le_of_ble_eq_true rfl) (fun Γ => g_sub [0] rfl (h Γ))
def pt_X10_expression_0 (l : Launch) (D : gD) (d : Nat) (q : gMem → Prop) (Γ : gC) (r0 : Nat) (μ : gMem) : Prop := G l D RX10 cX10_expression 1 none d (pV q) Γ 0 [(0, .ref (D.2.2 10 r0))] [] μ
def pt_X10_expression_1 (l : Launch) (D : gD) (d : Nat) (q : gMem → Prop) (Γ : gC) (r0 : Nat) (μ : gMem) : Prop := G l D RX10 cX10_expression 1 none d (pV q) Γ 4 [(0, .ref (D.2.2 10 r0))] [] μ
set_option maxRecDepth 20000 in
set_option maxHeartbeats 4000000 in
theorem bl_X10_expression_0 {l : Launch} {D : gD} {d : Nat} {q : gMem → Prop} {Γ : gC} {r0 : Nat} {μ : gMem} (hr0 : r0 < 1) (h : ∃ (d_1 : Nat) (q_2 : gMem → Prop), d_1 < d ∧ Ctr l D d_1 yX10_conjunction cX10_conjunction 1 none [.ref (D.2.2 10 r0)] μ (pV q_2) ∧ ∀ (μ_5 : gMem), q_2 μ_5 → pt_X10_expression_1 l D d q Γ r0 μ_5) : pt_X10_expression_0 l D d q Γ r0 μ := by
  unfold pt_X10_expression_0
  refine g_aload_n dX10_expression_0 rfl ?_
  obtain ⟨d_1, q_2, hd_3, hc_4, h⟩ := h
  refine g_cV ca_X10_261 ob_10 hc_4 hd_3 (by decide) hr0 rfl rfl (by first | exact Nat.le_of_ble_eq_true rfl | decide) dX10_expression_1 (kV (fun μ_5 hq_7 => ?_))
  have h := h μ_5 hq_7
  exact g_sub [0] rfl h
set_option maxRecDepth 20000 in
set_option maxHeartbeats 4000000 in
theorem bl_X10_expression_1 {l : Launch} {D : gD} {d : Nat} {q : gMem → Prop} {Γ : gC} {r0 : Nat} {μ : gMem} (hr0 : r0 < 1) (h : (0 < d) ∧ ((((bI (μ.1 10 r0 24 = 0 ∧ μ.1 10 r0 22 = 0 ∧ μ.1 10 r0 23 = (11 : Int32))) = 0) → q μ) ∧ ((¬ (bI (μ.1 10 r0 24 = 0 ∧ μ.1 10 r0 22 = 0 ∧ μ.1 10 r0 23 = (11 : Int32))) = 0) → ∃ (d_6 : Nat) (q_7 : gMem → Prop), d_6 < d ∧ Ctr l D d_6 yX10_knot cX10_knot 1 none [.ref (D.2.2 10 r0)] μ (pV q_7) ∧ ∀ (μ_10 : gMem), q_7 μ_10 → ∃ (d_13 : Nat) (q_14 : gMem → Prop), d_13 < d ∧ Ctr l D d_13 yX10_goOn cX10_goOn 1 none [.ref (D.2.2 10 r0)] μ_10 (pV q_14) ∧ ∀ (μ_17 : gMem), q_14 μ_17 → ∃ (d_20 : Nat) (q_21 : gMem → Prop), d_20 < d ∧ Ctr l D d_20 yX10_conjunction cX10_conjunction 1 none [.ref (D.2.2 10 r0)] μ_17 (pV q_21) ∧ ∀ (μ_24 : gMem), q_21 μ_24 → ∃ (d_27 : Nat) (q_28 : gMem → Prop), d_27 < d ∧ Ctr l D d_27 yX10_puts cX10_puts 3 none [.ref (D.2.2 10 r0), .int (2 : Int32), .int (262 : Int32)] μ_24 (pV q_28) ∧ ∀ (μ_31 : gMem), q_28 μ_31 → pt_X10_expression_1 l D d q Γ r0 μ_31))) : pt_X10_expression_1 l D d q Γ r0 μ := by
  unfold pt_X10_expression_1
  refine g_aload_n dX10_expression_4 rfl ?_
  refine g_bipush (11 : Int32) dX10_expression_5 rfl ?_
  obtain ⟨hd_1, h⟩ := h
  refine g_cV ca_X10_264 ob_10 (c_X10_isWord (d := 0) (Nat.le_refl _) hr0 ) hd_1 (by decide) hr0 rfl rfl (by first | exact Nat.le_of_ble_eq_true rfl | decide) dX10_expression_7 (kI (fun v_2 μ_3 hq_4 => ?_))
  obtain ⟨ev_2, eμ_3⟩ := hq_4
  subst ev_2
  refine g_mem eμ_3 ?_
  refine g_if_eq (tgt := 36) dX10_expression_10 (by decide) (fun c_5 => ?_) (fun c_5 => ?_)
  · have h := h.1 c_5
    exact g_vret dX10_expression_36 rfl ⟨rfl, h⟩
  · have h := h.2 c_5
    refine g_aload_n dX10_expression_13 rfl ?_
    obtain ⟨d_6, q_7, hd_8, hc_9, h⟩ := h
    refine g_cV ca_X10_267 ob_10 hc_9 hd_8 (by decide) hr0 rfl rfl (by first | exact Nat.le_of_ble_eq_true rfl | decide) dX10_expression_14 (kV (fun μ_10 hq_12 => ?_))
    have h := h μ_10 hq_12
    refine g_aload_n dX10_expression_17 rfl ?_
    obtain ⟨d_13, q_14, hd_15, hc_16, h⟩ := h
    refine g_cV ca_X10_252 ob_10 hc_16 hd_15 (by decide) hr0 rfl rfl (by first | exact Nat.le_of_ble_eq_true rfl | decide) dX10_expression_18 (kV (fun μ_17 hq_19 => ?_))
    have h := h μ_17 hq_19
    refine g_aload_n dX10_expression_21 rfl ?_
    obtain ⟨d_20, q_21, hd_22, hc_23, h⟩ := h
    refine g_cV ca_X10_261 ob_10 hc_23 hd_22 (by decide) hr0 rfl rfl (by first | exact Nat.le_of_ble_eq_true rfl | decide) dX10_expression_22 (kV (fun μ_24 hq_26 => ?_))
    have h := h μ_24 hq_26
    refine g_aload_n dX10_expression_25 rfl ?_
    refine g_iconst (2 : Int32) dX10_expression_26 rfl ?_
    refine g_sipush (262 : Int32) dX10_expression_27 rfl ?_
    obtain ⟨d_27, q_28, hd_29, hc_30, h⟩ := h
    refine g_cV ca_X10_270 ob_10 hc_30 hd_29 (by decide) hr0 rfl rfl (by first | exact Nat.le_of_ble_eq_true rfl | decide) dX10_expression_30 (kV (fun μ_31 hq_33 => ?_))
    have h := h μ_31 hq_33
    refine g_goto (tgt := 4) dX10_expression_33 (by decide) ?_
    exact g_sub [0] rfl h
theorem en_X10_expression {l : Launch} {D : gD} {d : Nat} {q : gMem → Prop} {r0 : Nat} {μ : gMem} (h : ∀ Γ : gC, pt_X10_expression_0 l D d q Γ r0 μ) : Ctr l D d yX10_expression cX10_expression 1 none [.ref (D.2.2 10 r0)] μ (pV q) :=
  Ctr_of rfl (by decide) (Nat.le_of_ble_eq_true rfl) (fun Γ => g_sub [0] rfl (h Γ))
def pt_X10_conjunction_0 (l : Launch) (D : gD) (d : Nat) (q : gMem → Prop) (Γ : gC) (r0 : Nat) (μ : gMem) : Prop := G l D RX10 cX10_conjunction 1 none d (pV q) Γ 0 [(0, .ref (D.2.2 10 r0))] [] μ
def pt_X10_conjunction_1 (l : Launch) (D : gD) (d : Nat) (q : gMem → Prop) (Γ : gC) (r0 : Nat) (μ : gMem) : Prop := G l D RX10 cX10_conjunction 1 none d (pV q) Γ 4 [(0, .ref (D.2.2 10 r0))] [] μ
set_option maxRecDepth 20000 in
set_option maxHeartbeats 4000000 in
theorem bl_X10_conjunction_0 {l : Launch} {D : gD} {d : Nat} {q : gMem → Prop} {Γ : gC} {r0 : Nat} {μ : gMem} (hr0 : r0 < 1) (h : ∃ (d_1 : Nat) (q_2 : gMem → Prop), d_1 < d ∧ Ctr l D d_1 yX10_negation cX10_negation 2 none [.ref (D.2.2 10 r0)] μ (pV q_2) ∧ ∀ (μ_5 : gMem), q_2 μ_5 → pt_X10_conjunction_1 l D d q Γ r0 μ_5) : pt_X10_conjunction_0 l D d q Γ r0 μ := by
  unfold pt_X10_conjunction_0
  refine g_aload_n dX10_conjunction_0 rfl ?_
  obtain ⟨d_1, q_2, hd_3, hc_4, h⟩ := h
  refine g_cV ca_X10_273 ob_10 hc_4 hd_3 (by decide) hr0 rfl rfl (by first | exact Nat.le_of_ble_eq_true rfl | decide) dX10_conjunction_1 (kV (fun μ_5 hq_7 => ?_))
  have h := h μ_5 hq_7
  exact g_sub [0] rfl h
set_option maxRecDepth 20000 in
set_option maxHeartbeats 4000000 in
theorem bl_X10_conjunction_1 {l : Launch} {D : gD} {d : Nat} {q : gMem → Prop} {Γ : gC} {r0 : Nat} {μ : gMem} (hr0 : r0 < 1) (h : (0 < d) ∧ ((((bI (μ.1 10 r0 24 = 0 ∧ μ.1 10 r0 22 = 0 ∧ μ.1 10 r0 23 = (12 : Int32))) = 0) → q μ) ∧ ((¬ (bI (μ.1 10 r0 24 = 0 ∧ μ.1 10 r0 22 = 0 ∧ μ.1 10 r0 23 = (12 : Int32))) = 0) → ∃ (d_6 : Nat) (q_7 : gMem → Prop), d_6 < d ∧ Ctr l D d_6 yX10_knot cX10_knot 1 none [.ref (D.2.2 10 r0)] μ (pV q_7) ∧ ∀ (μ_10 : gMem), q_7 μ_10 → ∃ (d_13 : Nat) (q_14 : gMem → Prop), d_13 < d ∧ Ctr l D d_13 yX10_goOn cX10_goOn 1 none [.ref (D.2.2 10 r0)] μ_10 (pV q_14) ∧ ∀ (μ_17 : gMem), q_14 μ_17 → ∃ (d_20 : Nat) (q_21 : gMem → Prop), d_20 < d ∧ Ctr l D d_20 yX10_negation cX10_negation 2 none [.ref (D.2.2 10 r0)] μ_17 (pV q_21) ∧ ∀ (μ_24 : gMem), q_21 μ_24 → ∃ (d_27 : Nat) (q_28 : gMem → Prop), d_27 < d ∧ Ctr l D d_27 yX10_puts cX10_puts 3 none [.ref (D.2.2 10 r0), .int (2 : Int32), .int (261 : Int32)] μ_24 (pV q_28) ∧ ∀ (μ_31 : gMem), q_28 μ_31 → pt_X10_conjunction_1 l D d q Γ r0 μ_31))) : pt_X10_conjunction_1 l D d q Γ r0 μ := by
  unfold pt_X10_conjunction_1
  refine g_aload_n dX10_conjunction_4 rfl ?_
  refine g_bipush (12 : Int32) dX10_conjunction_5 rfl ?_
  obtain ⟨hd_1, h⟩ := h
  refine g_cV ca_X10_264 ob_10 (c_X10_isWord (d := 0) (Nat.le_refl _) hr0 ) hd_1 (by decide) hr0 rfl rfl (by first | exact Nat.le_of_ble_eq_true rfl | decide) dX10_conjunction_7 (kI (fun v_2 μ_3 hq_4 => ?_))
  obtain ⟨ev_2, eμ_3⟩ := hq_4
  subst ev_2
  refine g_mem eμ_3 ?_
  refine g_if_eq (tgt := 36) dX10_conjunction_10 (by decide) (fun c_5 => ?_) (fun c_5 => ?_)
  · have h := h.1 c_5
    exact g_vret dX10_conjunction_36 rfl ⟨rfl, h⟩
  · have h := h.2 c_5
    refine g_aload_n dX10_conjunction_13 rfl ?_
    obtain ⟨d_6, q_7, hd_8, hc_9, h⟩ := h
    refine g_cV ca_X10_267 ob_10 hc_9 hd_8 (by decide) hr0 rfl rfl (by first | exact Nat.le_of_ble_eq_true rfl | decide) dX10_conjunction_14 (kV (fun μ_10 hq_12 => ?_))
    have h := h μ_10 hq_12
    refine g_aload_n dX10_conjunction_17 rfl ?_
    obtain ⟨d_13, q_14, hd_15, hc_16, h⟩ := h
    refine g_cV ca_X10_252 ob_10 hc_16 hd_15 (by decide) hr0 rfl rfl (by first | exact Nat.le_of_ble_eq_true rfl | decide) dX10_conjunction_18 (kV (fun μ_17 hq_19 => ?_))
    have h := h μ_17 hq_19
    refine g_aload_n dX10_conjunction_21 rfl ?_
    obtain ⟨d_20, q_21, hd_22, hc_23, h⟩ := h
    refine g_cV ca_X10_273 ob_10 hc_23 hd_22 (by decide) hr0 rfl rfl (by first | exact Nat.le_of_ble_eq_true rfl | decide) dX10_conjunction_22 (kV (fun μ_24 hq_26 => ?_))
    have h := h μ_24 hq_26
    refine g_aload_n dX10_conjunction_25 rfl ?_
    refine g_iconst (2 : Int32) dX10_conjunction_26 rfl ?_
    refine g_sipush (261 : Int32) dX10_conjunction_27 rfl ?_
    obtain ⟨d_27, q_28, hd_29, hc_30, h⟩ := h
    refine g_cV ca_X10_270 ob_10 hc_30 hd_29 (by decide) hr0 rfl rfl (by first | exact Nat.le_of_ble_eq_true rfl | decide) dX10_conjunction_30 (kV (fun μ_31 hq_33 => ?_))
    have h := h μ_31 hq_33
    refine g_goto (tgt := 4) dX10_conjunction_33 (by decide) ?_
    exact g_sub [0] rfl h
theorem en_X10_conjunction {l : Launch} {D : gD} {d : Nat} {q : gMem → Prop} {r0 : Nat} {μ : gMem} (h : ∀ Γ : gC, pt_X10_conjunction_0 l D d q Γ r0 μ) : Ctr l D d yX10_conjunction cX10_conjunction 1 none [.ref (D.2.2 10 r0)] μ (pV q) :=
  Ctr_of rfl (by decide) (Nat.le_of_ble_eq_true rfl) (fun Γ => g_sub [0] rfl (h Γ))
def pt_X10_negation_0 (l : Launch) (D : gD) (d : Nat) (q : gMem → Prop) (Γ : gC) (r0 : Nat) (μ : gMem) : Prop := G l D RX10 cX10_negation 2 none d (pV q) Γ 0 [(0, .ref (D.2.2 10 r0))] [] μ
def pt_X10_negation_1 (l : Launch) (D : gD) (d : Nat) (q : gMem → Prop) (Γ : gC) (r0 : Nat) (μ : gMem) : Prop := G l D RX10 cX10_negation 2 none d (pV q) Γ 87 [(0, .ref (D.2.2 10 r0))] [] μ
set_option maxRecDepth 20000 in
set_option maxHeartbeats 4000000 in
theorem bl_X10_negation_0 {l : Launch} {D : gD} {d : Nat} {q : gMem → Prop} {Γ : gC} {r0 : Nat} {μ : gMem} (hr0 : r0 < 1) (h : (0 < d) ∧ ((((bI (μ.1 10 r0 24 = 0 ∧ μ.1 10 r0 22 = 0 ∧ μ.1 10 r0 23 = (13 : Int32))) = 0) → ∃ (d_6 : Nat) (q_7 : gMem → Prop), d_6 < d ∧ Ctr l D d_6 yX10_sum cX10_sum 2 none [.ref (D.2.2 10 r0)] μ (pV q_7) ∧ ∀ (μ_10 : gMem), q_7 μ_10 → ((¬ (μ_10.1 10 r0 24) = 0) → q μ_10) ∧ (((μ_10.1 10 r0 24) = 0) → ((¬ (μ_10.1 10 r0 22) = (3 : Int32)) → q μ_10) ∧ (((μ_10.1 10 r0 22) = (3 : Int32)) → (((μ_10.1 10 r0 23) = (60 : Int32)) → pt_X10_negation_1 l D d q Γ r0 μ_10) ∧ ((¬ (μ_10.1 10 r0 23) = (60 : Int32)) → (((μ_10.1 10 r0 23) = (62 : Int32)) → pt_X10_negation_1 l D d q Γ r0 μ_10) ∧ ((¬ (μ_10.1 10 r0 23) = (62 : Int32)) → (((μ_10.1 10 r0 23) = (61 : Int32)) → pt_X10_negation_1 l D d q Γ r0 μ_10) ∧ ((¬ (μ_10.1 10 r0 23) = (61 : Int32)) → (((256 : Int32) ≤ (μ_10.1 10 r0 23)) → pt_X10_negation_1 l D d q Γ r0 μ_10) ∧ ((¬ (256 : Int32) ≤ (μ_10.1 10 r0 23)) → q μ_10))))))) ∧ ((¬ (bI (μ.1 10 r0 24 = 0 ∧ μ.1 10 r0 22 = 0 ∧ μ.1 10 r0 23 = (13 : Int32))) = 0) → ∃ (d_19 : Nat) (q_20 : gMem → Prop), d_19 < d ∧ Ctr l D d_19 yX10_knot cX10_knot 1 none [.ref (D.2.2 10 r0)] μ (pV q_20) ∧ ∀ (μ_23 : gMem), q_20 μ_23 → ∃ (d_26 : Nat) (q_27 : gMem → Prop), d_26 < d ∧ Ctr l D d_26 yX10_goOn cX10_goOn 1 none [.ref (D.2.2 10 r0)] μ_23 (pV q_27) ∧ ∀ (μ_30 : gMem), q_27 μ_30 → ∃ (d_33 : Nat) (q_34 : gMem → Prop), d_33 < d ∧ Ctr l D d_33 yX10_negation cX10_negation 2 none [.ref (D.2.2 10 r0)] μ_30 (pV q_34) ∧ ∀ (μ_37 : gMem), q_34 μ_37 → ∃ (d_40 : Nat) (q_41 : gMem → Prop), d_40 < d ∧ Ctr l D d_40 yX10_puts cX10_puts 3 none [.ref (D.2.2 10 r0), .int (2 : Int32), .int (260 : Int32)] μ_37 (pV q_41) ∧ ∀ (μ_44 : gMem), q_41 μ_44 → q μ_44))) : pt_X10_negation_0 l D d q Γ r0 μ := by
  unfold pt_X10_negation_0
  refine g_aload_n dX10_negation_0 rfl ?_
  refine g_bipush (13 : Int32) dX10_negation_1 rfl ?_
  obtain ⟨hd_1, h⟩ := h
  refine g_cV ca_X10_264 ob_10 (c_X10_isWord (d := 0) (Nat.le_refl _) hr0 ) hd_1 (by decide) hr0 rfl rfl (by first | exact Nat.le_of_ble_eq_true rfl | decide) dX10_negation_3 (kI (fun v_2 μ_3 hq_4 => ?_))
  obtain ⟨ev_2, eμ_3⟩ := hq_4
  subst ev_2
  refine g_mem eμ_3 ?_
  refine g_if_eq (tgt := 30) dX10_negation_6 (by decide) (fun c_5 => ?_) (fun c_5 => ?_)
  · have h := h.1 c_5
    refine g_aload_n dX10_negation_30 rfl ?_
    obtain ⟨d_6, q_7, hd_8, hc_9, h⟩ := h
    refine g_cV ca_X10_276 ob_10 hc_9 hd_8 (by decide) hr0 rfl rfl (by first | exact Nat.le_of_ble_eq_true rfl | decide) dX10_negation_31 (kV (fun μ_10 hq_12 => ?_))
    have h := h μ_10 hq_12
    refine g_aload_n dX10_negation_34 rfl ?_
    refine g_gfI fi_10_199 hr0 dX10_negation_35 ?_
    refine g_if_ne (tgt := 86) dX10_negation_38 (by decide) (fun c_13 => ?_) (fun c_13 => ?_)
    · have h := h.1 c_13
      exact g_vret dX10_negation_86 rfl ⟨rfl, h⟩
    · have h := h.2 c_13
      refine g_aload_n dX10_negation_41 rfl ?_
      refine g_gfI fi_10_164 hr0 dX10_negation_42 ?_
      refine g_iconst (3 : Int32) dX10_negation_45 rfl ?_
      refine g_icmp_ne (tgt := 86) dX10_negation_46 (by decide) (fun c_14 => ?_) (fun c_14 => ?_)
      · have h := h.1 c_14
        exact g_vret dX10_negation_86 rfl ⟨rfl, h⟩
      · have h := h.2 c_14
        refine g_aload_n dX10_negation_49 rfl ?_
        refine g_gfI fi_10_174 hr0 dX10_negation_50 ?_
        refine g_bipush (60 : Int32) dX10_negation_53 rfl ?_
        refine g_icmp_eq (tgt := 87) dX10_negation_55 (by decide) (fun c_15 => ?_) (fun c_15 => ?_)
        · have h := h.1 c_15
          exact g_sub [0] rfl h
        · have h := h.2 c_15
          refine g_aload_n dX10_negation_58 rfl ?_
          refine g_gfI fi_10_174 hr0 dX10_negation_59 ?_
          refine g_bipush (62 : Int32) dX10_negation_62 rfl ?_
          refine g_icmp_eq (tgt := 87) dX10_negation_64 (by decide) (fun c_16 => ?_) (fun c_16 => ?_)
          · have h := h.1 c_16
            exact g_sub [0] rfl h
          · have h := h.2 c_16
            refine g_aload_n dX10_negation_67 rfl ?_
            refine g_gfI fi_10_174 hr0 dX10_negation_68 ?_
            refine g_bipush (61 : Int32) dX10_negation_71 rfl ?_
            refine g_icmp_eq (tgt := 87) dX10_negation_73 (by decide) (fun c_17 => ?_) (fun c_17 => ?_)
            · have h := h.1 c_17
              exact g_sub [0] rfl h
            · have h := h.2 c_17
              refine g_aload_n dX10_negation_76 rfl ?_
              refine g_gfI fi_10_174 hr0 dX10_negation_77 ?_
              refine g_sipush (256 : Int32) dX10_negation_80 rfl ?_
              refine g_icmp_ge (tgt := 87) dX10_negation_83 (by decide) (fun c_18 => ?_) (fun c_18 => ?_)
              · have h := h.1 c_18
                exact g_sub [0] rfl h
              · have h := h.2 c_18
                exact g_vret dX10_negation_86 rfl ⟨rfl, h⟩
  · have h := h.2 c_5
    refine g_aload_n dX10_negation_9 rfl ?_
    obtain ⟨d_19, q_20, hd_21, hc_22, h⟩ := h
    refine g_cV ca_X10_267 ob_10 hc_22 hd_21 (by decide) hr0 rfl rfl (by first | exact Nat.le_of_ble_eq_true rfl | decide) dX10_negation_10 (kV (fun μ_23 hq_25 => ?_))
    have h := h μ_23 hq_25
    refine g_aload_n dX10_negation_13 rfl ?_
    obtain ⟨d_26, q_27, hd_28, hc_29, h⟩ := h
    refine g_cV ca_X10_252 ob_10 hc_29 hd_28 (by decide) hr0 rfl rfl (by first | exact Nat.le_of_ble_eq_true rfl | decide) dX10_negation_14 (kV (fun μ_30 hq_32 => ?_))
    have h := h μ_30 hq_32
    refine g_aload_n dX10_negation_17 rfl ?_
    obtain ⟨d_33, q_34, hd_35, hc_36, h⟩ := h
    refine g_cV ca_X10_273 ob_10 hc_36 hd_35 (by decide) hr0 rfl rfl (by first | exact Nat.le_of_ble_eq_true rfl | decide) dX10_negation_18 (kV (fun μ_37 hq_39 => ?_))
    have h := h μ_37 hq_39
    refine g_aload_n dX10_negation_21 rfl ?_
    refine g_iconst (2 : Int32) dX10_negation_22 rfl ?_
    refine g_sipush (260 : Int32) dX10_negation_23 rfl ?_
    obtain ⟨d_40, q_41, hd_42, hc_43, h⟩ := h
    refine g_cV ca_X10_270 ob_10 hc_43 hd_42 (by decide) hr0 rfl rfl (by first | exact Nat.le_of_ble_eq_true rfl | decide) dX10_negation_26 (kV (fun μ_44 hq_46 => ?_))
    have h := h μ_44 hq_46
    exact g_vret dX10_negation_29 rfl ⟨rfl, h⟩
set_option maxRecDepth 20000 in
set_option maxHeartbeats 4000000 in
theorem bl_X10_negation_1 {l : Launch} {D : gD} {d : Nat} {q : gMem → Prop} {Γ : gC} {r0 : Nat} {μ : gMem} (hr0 : r0 < 1) (h : ∀ x1_1 : Int32, x1_1 = μ.1 10 r0 23 → ∃ (d_2 : Nat) (q_3 : gMem → Prop), d_2 < d ∧ Ctr l D d_2 yX10_knot cX10_knot 1 none [.ref (D.2.2 10 r0)] μ (pV q_3) ∧ ∀ (μ_6 : gMem), q_3 μ_6 → ∃ (d_9 : Nat) (q_10 : gMem → Prop), d_9 < d ∧ Ctr l D d_9 yX10_goOn cX10_goOn 1 none [.ref (D.2.2 10 r0)] μ_6 (pV q_10) ∧ ∀ (μ_13 : gMem), q_10 μ_13 → ∃ (d_16 : Nat) (q_17 : gMem → Prop), d_16 < d ∧ Ctr l D d_16 yX10_sum cX10_sum 2 none [.ref (D.2.2 10 r0)] μ_13 (pV q_17) ∧ ∀ (μ_20 : gMem), q_17 μ_20 → ∃ (d_23 : Nat) (q_24 : gMem → Prop), d_23 < d ∧ Ctr l D d_23 yX10_puts cX10_puts 3 none [.ref (D.2.2 10 r0), .int (2 : Int32), .int x1_1] μ_20 (pV q_24) ∧ ∀ (μ_27 : gMem), q_24 μ_27 → q μ_27) : pt_X10_negation_1 l D d q Γ r0 μ := by
  unfold pt_X10_negation_1
  refine g_aload_n dX10_negation_87 rfl ?_
  refine g_gfI fi_10_174 hr0 dX10_negation_88 ?_
  refine g_istore_n dX10_negation_91 (by decide) (fun x1_1 ex1_1 => g_sub (lv' := [(0, .ref (D.2.2 10 r0)), (1, .int x1_1)]) [1, 0] rfl ?_)
  have h := h x1_1 ex1_1
  refine g_aload_n dX10_negation_92 rfl ?_
  obtain ⟨d_2, q_3, hd_4, hc_5, h⟩ := h
  refine g_cV ca_X10_267 ob_10 hc_5 hd_4 (by decide) hr0 rfl rfl (by first | exact Nat.le_of_ble_eq_true rfl | decide) dX10_negation_93 (kV (fun μ_6 hq_8 => ?_))
  have h := h μ_6 hq_8
  refine g_aload_n dX10_negation_96 rfl ?_
  obtain ⟨d_9, q_10, hd_11, hc_12, h⟩ := h
  refine g_cV ca_X10_252 ob_10 hc_12 hd_11 (by decide) hr0 rfl rfl (by first | exact Nat.le_of_ble_eq_true rfl | decide) dX10_negation_97 (kV (fun μ_13 hq_15 => ?_))
  have h := h μ_13 hq_15
  refine g_aload_n dX10_negation_100 rfl ?_
  obtain ⟨d_16, q_17, hd_18, hc_19, h⟩ := h
  refine g_cV ca_X10_276 ob_10 hc_19 hd_18 (by decide) hr0 rfl rfl (by first | exact Nat.le_of_ble_eq_true rfl | decide) dX10_negation_101 (kV (fun μ_20 hq_22 => ?_))
  have h := h μ_20 hq_22
  refine g_aload_n dX10_negation_104 rfl ?_
  refine g_iconst (2 : Int32) dX10_negation_105 rfl ?_
  refine g_iload_n dX10_negation_106 rfl ?_
  obtain ⟨d_23, q_24, hd_25, hc_26, h⟩ := h
  refine g_cV ca_X10_270 ob_10 hc_26 hd_25 (by decide) hr0 rfl rfl (by first | exact Nat.le_of_ble_eq_true rfl | decide) dX10_negation_107 (kV (fun μ_27 hq_29 => ?_))
  have h := h μ_27 hq_29
  exact g_vret dX10_negation_110 rfl ⟨rfl, h⟩
theorem en_X10_negation {l : Launch} {D : gD} {d : Nat} {q : gMem → Prop} {r0 : Nat} {μ : gMem} (h : ∀ Γ : gC, pt_X10_negation_0 l D d q Γ r0 μ) : Ctr l D d yX10_negation cX10_negation 2 none [.ref (D.2.2 10 r0)] μ (pV q) :=
  Ctr_of rfl (by decide) (Nat.le_of_ble_eq_true rfl) (fun Γ => g_sub [0] rfl (h Γ))
def pt_X10_sum_0 (l : Launch) (D : gD) (d : Nat) (q : gMem → Prop) (Γ : gC) (r0 : Nat) (μ : gMem) : Prop := G l D RX10 cX10_sum 2 none d (pV q) Γ 0 [(0, .ref (D.2.2 10 r0))] [] μ
def pt_X10_sum_1 (l : Launch) (D : gD) (d : Nat) (q : gMem → Prop) (Γ : gC) (r0 : Nat) (μ : gMem) : Prop := G l D RX10 cX10_sum 2 none d (pV q) Γ 4 [(0, .ref (D.2.2 10 r0))] [] μ
def pt_X10_sum_2 (l : Launch) (D : gD) (d : Nat) (q : gMem → Prop) (Γ : gC) (r0 : Nat) (μ : gMem) : Prop := G l D RX10 cX10_sum 2 none d (pV q) Γ 22 [(0, .ref (D.2.2 10 r0))] [] μ
set_option maxRecDepth 20000 in
set_option maxHeartbeats 4000000 in
theorem bl_X10_sum_0 {l : Launch} {D : gD} {d : Nat} {q : gMem → Prop} {Γ : gC} {r0 : Nat} {μ : gMem} (hr0 : r0 < 1) (h : ∃ (d_1 : Nat) (q_2 : gMem → Prop), d_1 < d ∧ Ctr l D d_1 yX10_product cX10_product 2 none [.ref (D.2.2 10 r0)] μ (pV q_2) ∧ ∀ (μ_5 : gMem), q_2 μ_5 → pt_X10_sum_1 l D d q Γ r0 μ_5) : pt_X10_sum_0 l D d q Γ r0 μ := by
  unfold pt_X10_sum_0
  refine g_aload_n dX10_sum_0 rfl ?_
  obtain ⟨d_1, q_2, hd_3, hc_4, h⟩ := h
  refine g_cV ca_X10_279 ob_10 hc_4 hd_3 (by decide) hr0 rfl rfl (by first | exact Nat.le_of_ble_eq_true rfl | decide) dX10_sum_1 (kV (fun μ_5 hq_7 => ?_))
  have h := h μ_5 hq_7
  exact g_sub [0] rfl h
set_option maxRecDepth 20000 in
set_option maxHeartbeats 4000000 in
theorem bl_X10_sum_1 {l : Launch} {D : gD} {d : Nat} {q : gMem → Prop} {Γ : gC} {r0 : Nat} {μ : gMem} (hr0 : r0 < 1) (h : (0 < d) ∧ (((¬ (bI (μ.1 10 r0 24 = 0 ∧ μ.1 10 r0 22 = (3 : Int32) ∧ μ.1 10 r0 23 = (43 : Int32))) = 0) → pt_X10_sum_2 l D d q Γ r0 μ) ∧ (((bI (μ.1 10 r0 24 = 0 ∧ μ.1 10 r0 22 = (3 : Int32) ∧ μ.1 10 r0 23 = (43 : Int32))) = 0) → (0 < d) ∧ ((((bI (μ.1 10 r0 24 = 0 ∧ μ.1 10 r0 22 = (3 : Int32) ∧ μ.1 10 r0 23 = (45 : Int32))) = 0) → q μ) ∧ ((¬ (bI (μ.1 10 r0 24 = 0 ∧ μ.1 10 r0 22 = (3 : Int32) ∧ μ.1 10 r0 23 = (45 : Int32))) = 0) → pt_X10_sum_2 l D d q Γ r0 μ))))) : pt_X10_sum_1 l D d q Γ r0 μ := by
  unfold pt_X10_sum_1
  refine g_aload_n dX10_sum_4 rfl ?_
  refine g_bipush (43 : Int32) dX10_sum_5 rfl ?_
  obtain ⟨hd_1, h⟩ := h
  refine g_cV ca_X10_243 ob_10 (c_X10_isSign (d := 0) (Nat.le_refl _) hr0 ) hd_1 (by decide) hr0 rfl rfl (by first | exact Nat.le_of_ble_eq_true rfl | decide) dX10_sum_7 (kI (fun v_2 μ_3 hq_4 => ?_))
  obtain ⟨ev_2, eμ_3⟩ := hq_4
  subst ev_2
  refine g_mem eμ_3 ?_
  refine g_if_ne (tgt := 22) dX10_sum_10 (by decide) (fun c_5 => ?_) (fun c_5 => ?_)
  · have h := h.1 c_5
    exact g_sub [0] rfl h
  · have h := h.2 c_5
    refine g_aload_n dX10_sum_13 rfl ?_
    refine g_bipush (45 : Int32) dX10_sum_14 rfl ?_
    obtain ⟨hd_6, h⟩ := h
    refine g_cV ca_X10_243 ob_10 (c_X10_isSign (d := 0) (Nat.le_refl _) hr0 ) hd_6 (by decide) hr0 rfl rfl (by first | exact Nat.le_of_ble_eq_true rfl | decide) dX10_sum_16 (kI (fun v_7 μ_8 hq_9 => ?_))
    obtain ⟨ev_7, eμ_8⟩ := hq_9
    subst ev_7
    refine g_mem eμ_8 ?_
    refine g_if_eq (tgt := 48) dX10_sum_19 (by decide) (fun c_10 => ?_) (fun c_10 => ?_)
    · have h := h.1 c_10
      exact g_vret dX10_sum_48 rfl ⟨rfl, h⟩
    · have h := h.2 c_10
      exact g_sub [0] rfl h
set_option maxRecDepth 20000 in
set_option maxHeartbeats 4000000 in
theorem bl_X10_sum_2 {l : Launch} {D : gD} {d : Nat} {q : gMem → Prop} {Γ : gC} {r0 : Nat} {μ : gMem} (hr0 : r0 < 1) (h : ∀ x1_1 : Int32, x1_1 = μ.1 10 r0 23 → ∃ (d_2 : Nat) (q_3 : gMem → Prop), d_2 < d ∧ Ctr l D d_2 yX10_knot cX10_knot 1 none [.ref (D.2.2 10 r0)] μ (pV q_3) ∧ ∀ (μ_6 : gMem), q_3 μ_6 → ∃ (d_9 : Nat) (q_10 : gMem → Prop), d_9 < d ∧ Ctr l D d_9 yX10_goOn cX10_goOn 1 none [.ref (D.2.2 10 r0)] μ_6 (pV q_10) ∧ ∀ (μ_13 : gMem), q_10 μ_13 → ∃ (d_16 : Nat) (q_17 : gMem → Prop), d_16 < d ∧ Ctr l D d_16 yX10_product cX10_product 2 none [.ref (D.2.2 10 r0)] μ_13 (pV q_17) ∧ ∀ (μ_20 : gMem), q_17 μ_20 → ∃ (d_23 : Nat) (q_24 : gMem → Prop), d_23 < d ∧ Ctr l D d_23 yX10_puts cX10_puts 3 none [.ref (D.2.2 10 r0), .int (2 : Int32), .int x1_1] μ_20 (pV q_24) ∧ ∀ (μ_27 : gMem), q_24 μ_27 → pt_X10_sum_1 l D d q Γ r0 μ_27) : pt_X10_sum_2 l D d q Γ r0 μ := by
  unfold pt_X10_sum_2
  refine g_aload_n dX10_sum_22 rfl ?_
  refine g_gfI fi_10_174 hr0 dX10_sum_23 ?_
  refine g_istore_n dX10_sum_26 (by decide) (fun x1_1 ex1_1 => g_sub (lv' := [(0, .ref (D.2.2 10 r0)), (1, .int x1_1)]) [1, 0] rfl ?_)
  have h := h x1_1 ex1_1
  refine g_aload_n dX10_sum_27 rfl ?_
  obtain ⟨d_2, q_3, hd_4, hc_5, h⟩ := h
  refine g_cV ca_X10_267 ob_10 hc_5 hd_4 (by decide) hr0 rfl rfl (by first | exact Nat.le_of_ble_eq_true rfl | decide) dX10_sum_28 (kV (fun μ_6 hq_8 => ?_))
  have h := h μ_6 hq_8
  refine g_aload_n dX10_sum_31 rfl ?_
  obtain ⟨d_9, q_10, hd_11, hc_12, h⟩ := h
  refine g_cV ca_X10_252 ob_10 hc_12 hd_11 (by decide) hr0 rfl rfl (by first | exact Nat.le_of_ble_eq_true rfl | decide) dX10_sum_32 (kV (fun μ_13 hq_15 => ?_))
  have h := h μ_13 hq_15
  refine g_aload_n dX10_sum_35 rfl ?_
  obtain ⟨d_16, q_17, hd_18, hc_19, h⟩ := h
  refine g_cV ca_X10_279 ob_10 hc_19 hd_18 (by decide) hr0 rfl rfl (by first | exact Nat.le_of_ble_eq_true rfl | decide) dX10_sum_36 (kV (fun μ_20 hq_22 => ?_))
  have h := h μ_20 hq_22
  refine g_aload_n dX10_sum_39 rfl ?_
  refine g_iconst (2 : Int32) dX10_sum_40 rfl ?_
  refine g_iload_n dX10_sum_41 rfl ?_
  obtain ⟨d_23, q_24, hd_25, hc_26, h⟩ := h
  refine g_cV ca_X10_270 ob_10 hc_26 hd_25 (by decide) hr0 rfl rfl (by first | exact Nat.le_of_ble_eq_true rfl | decide) dX10_sum_42 (kV (fun μ_27 hq_29 => ?_))
  have h := h μ_27 hq_29
  refine g_goto (tgt := 4) dX10_sum_45 (by decide) ?_
  exact g_sub [0] rfl h
theorem en_X10_sum {l : Launch} {D : gD} {d : Nat} {q : gMem → Prop} {r0 : Nat} {μ : gMem} (h : ∀ Γ : gC, pt_X10_sum_0 l D d q Γ r0 μ) : Ctr l D d yX10_sum cX10_sum 2 none [.ref (D.2.2 10 r0)] μ (pV q) :=
  Ctr_of rfl (by decide) (Nat.le_of_ble_eq_true rfl) (fun Γ => g_sub [0] rfl (h Γ))
def pt_X10_product_0 (l : Launch) (D : gD) (d : Nat) (q : gMem → Prop) (Γ : gC) (r0 : Nat) (μ : gMem) : Prop := G l D RX10 cX10_product 2 none d (pV q) Γ 0 [(0, .ref (D.2.2 10 r0))] [] μ
def pt_X10_product_1 (l : Launch) (D : gD) (d : Nat) (q : gMem → Prop) (Γ : gC) (r0 : Nat) (μ : gMem) : Prop := G l D RX10 cX10_product 2 none d (pV q) Γ 4 [(0, .ref (D.2.2 10 r0))] [] μ
def pt_X10_product_2 (l : Launch) (D : gD) (d : Nat) (q : gMem → Prop) (Γ : gC) (r0 : Nat) (μ : gMem) : Prop := G l D RX10 cX10_product 2 none d (pV q) Γ 22 [(0, .ref (D.2.2 10 r0))] [] μ
set_option maxRecDepth 20000 in
set_option maxHeartbeats 4000000 in
theorem bl_X10_product_0 {l : Launch} {D : gD} {d : Nat} {q : gMem → Prop} {Γ : gC} {r0 : Nat} {μ : gMem} (hr0 : r0 < 1) (h : ∃ (d_1 : Nat) (q_2 : gMem → Prop), d_1 < d ∧ Ctr l D d_1 yX10_primary cX10_primary 2 none [.ref (D.2.2 10 r0)] μ (pV q_2) ∧ ∀ (μ_5 : gMem), q_2 μ_5 → pt_X10_product_1 l D d q Γ r0 μ_5) : pt_X10_product_0 l D d q Γ r0 μ := by
  unfold pt_X10_product_0
  refine g_aload_n dX10_product_0 rfl ?_
  obtain ⟨d_1, q_2, hd_3, hc_4, h⟩ := h
  refine g_cV ca_X10_282 ob_10 hc_4 hd_3 (by decide) hr0 rfl rfl (by first | exact Nat.le_of_ble_eq_true rfl | decide) dX10_product_1 (kV (fun μ_5 hq_7 => ?_))
  have h := h μ_5 hq_7
  exact g_sub [0] rfl h
set_option maxRecDepth 20000 in
set_option maxHeartbeats 4000000 in
theorem bl_X10_product_1 {l : Launch} {D : gD} {d : Nat} {q : gMem → Prop} {Γ : gC} {r0 : Nat} {μ : gMem} (hr0 : r0 < 1) (h : (0 < d) ∧ (((¬ (bI (μ.1 10 r0 24 = 0 ∧ μ.1 10 r0 22 = (3 : Int32) ∧ μ.1 10 r0 23 = (42 : Int32))) = 0) → pt_X10_product_2 l D d q Γ r0 μ) ∧ (((bI (μ.1 10 r0 24 = 0 ∧ μ.1 10 r0 22 = (3 : Int32) ∧ μ.1 10 r0 23 = (42 : Int32))) = 0) → (0 < d) ∧ ((((bI (μ.1 10 r0 24 = 0 ∧ μ.1 10 r0 22 = (3 : Int32) ∧ μ.1 10 r0 23 = (47 : Int32))) = 0) → q μ) ∧ ((¬ (bI (μ.1 10 r0 24 = 0 ∧ μ.1 10 r0 22 = (3 : Int32) ∧ μ.1 10 r0 23 = (47 : Int32))) = 0) → pt_X10_product_2 l D d q Γ r0 μ))))) : pt_X10_product_1 l D d q Γ r0 μ := by
  unfold pt_X10_product_1
  refine g_aload_n dX10_product_4 rfl ?_
  refine g_bipush (42 : Int32) dX10_product_5 rfl ?_
  obtain ⟨hd_1, h⟩ := h
  refine g_cV ca_X10_243 ob_10 (c_X10_isSign (d := 0) (Nat.le_refl _) hr0 ) hd_1 (by decide) hr0 rfl rfl (by first | exact Nat.le_of_ble_eq_true rfl | decide) dX10_product_7 (kI (fun v_2 μ_3 hq_4 => ?_))
  obtain ⟨ev_2, eμ_3⟩ := hq_4
  subst ev_2
  refine g_mem eμ_3 ?_
  refine g_if_ne (tgt := 22) dX10_product_10 (by decide) (fun c_5 => ?_) (fun c_5 => ?_)
  · have h := h.1 c_5
    exact g_sub [0] rfl h
  · have h := h.2 c_5
    refine g_aload_n dX10_product_13 rfl ?_
    refine g_bipush (47 : Int32) dX10_product_14 rfl ?_
    obtain ⟨hd_6, h⟩ := h
    refine g_cV ca_X10_243 ob_10 (c_X10_isSign (d := 0) (Nat.le_refl _) hr0 ) hd_6 (by decide) hr0 rfl rfl (by first | exact Nat.le_of_ble_eq_true rfl | decide) dX10_product_16 (kI (fun v_7 μ_8 hq_9 => ?_))
    obtain ⟨ev_7, eμ_8⟩ := hq_9
    subst ev_7
    refine g_mem eμ_8 ?_
    refine g_if_eq (tgt := 48) dX10_product_19 (by decide) (fun c_10 => ?_) (fun c_10 => ?_)
    · have h := h.1 c_10
      exact g_vret dX10_product_48 rfl ⟨rfl, h⟩
    · have h := h.2 c_10
      exact g_sub [0] rfl h
set_option maxRecDepth 20000 in
set_option maxHeartbeats 4000000 in
theorem bl_X10_product_2 {l : Launch} {D : gD} {d : Nat} {q : gMem → Prop} {Γ : gC} {r0 : Nat} {μ : gMem} (hr0 : r0 < 1) (h : ∀ x1_1 : Int32, x1_1 = μ.1 10 r0 23 → ∃ (d_2 : Nat) (q_3 : gMem → Prop), d_2 < d ∧ Ctr l D d_2 yX10_knot cX10_knot 1 none [.ref (D.2.2 10 r0)] μ (pV q_3) ∧ ∀ (μ_6 : gMem), q_3 μ_6 → ∃ (d_9 : Nat) (q_10 : gMem → Prop), d_9 < d ∧ Ctr l D d_9 yX10_goOn cX10_goOn 1 none [.ref (D.2.2 10 r0)] μ_6 (pV q_10) ∧ ∀ (μ_13 : gMem), q_10 μ_13 → ∃ (d_16 : Nat) (q_17 : gMem → Prop), d_16 < d ∧ Ctr l D d_16 yX10_primary cX10_primary 2 none [.ref (D.2.2 10 r0)] μ_13 (pV q_17) ∧ ∀ (μ_20 : gMem), q_17 μ_20 → ∃ (d_23 : Nat) (q_24 : gMem → Prop), d_23 < d ∧ Ctr l D d_23 yX10_puts cX10_puts 3 none [.ref (D.2.2 10 r0), .int (2 : Int32), .int x1_1] μ_20 (pV q_24) ∧ ∀ (μ_27 : gMem), q_24 μ_27 → pt_X10_product_1 l D d q Γ r0 μ_27) : pt_X10_product_2 l D d q Γ r0 μ := by
  unfold pt_X10_product_2
  refine g_aload_n dX10_product_22 rfl ?_
  refine g_gfI fi_10_174 hr0 dX10_product_23 ?_
  refine g_istore_n dX10_product_26 (by decide) (fun x1_1 ex1_1 => g_sub (lv' := [(0, .ref (D.2.2 10 r0)), (1, .int x1_1)]) [1, 0] rfl ?_)
  have h := h x1_1 ex1_1
  refine g_aload_n dX10_product_27 rfl ?_
  obtain ⟨d_2, q_3, hd_4, hc_5, h⟩ := h
  refine g_cV ca_X10_267 ob_10 hc_5 hd_4 (by decide) hr0 rfl rfl (by first | exact Nat.le_of_ble_eq_true rfl | decide) dX10_product_28 (kV (fun μ_6 hq_8 => ?_))
  have h := h μ_6 hq_8
  refine g_aload_n dX10_product_31 rfl ?_
  obtain ⟨d_9, q_10, hd_11, hc_12, h⟩ := h
  refine g_cV ca_X10_252 ob_10 hc_12 hd_11 (by decide) hr0 rfl rfl (by first | exact Nat.le_of_ble_eq_true rfl | decide) dX10_product_32 (kV (fun μ_13 hq_15 => ?_))
  have h := h μ_13 hq_15
  refine g_aload_n dX10_product_35 rfl ?_
  obtain ⟨d_16, q_17, hd_18, hc_19, h⟩ := h
  refine g_cV ca_X10_282 ob_10 hc_19 hd_18 (by decide) hr0 rfl rfl (by first | exact Nat.le_of_ble_eq_true rfl | decide) dX10_product_36 (kV (fun μ_20 hq_22 => ?_))
  have h := h μ_20 hq_22
  refine g_aload_n dX10_product_39 rfl ?_
  refine g_iconst (2 : Int32) dX10_product_40 rfl ?_
  refine g_iload_n dX10_product_41 rfl ?_
  obtain ⟨d_23, q_24, hd_25, hc_26, h⟩ := h
  refine g_cV ca_X10_270 ob_10 hc_26 hd_25 (by decide) hr0 rfl rfl (by first | exact Nat.le_of_ble_eq_true rfl | decide) dX10_product_42 (kV (fun μ_27 hq_29 => ?_))
  have h := h μ_27 hq_29
  refine g_goto (tgt := 4) dX10_product_45 (by decide) ?_
  exact g_sub [0] rfl h
theorem en_X10_product {l : Launch} {D : gD} {d : Nat} {q : gMem → Prop} {r0 : Nat} {μ : gMem} (h : ∀ Γ : gC, pt_X10_product_0 l D d q Γ r0 μ) : Ctr l D d yX10_product cX10_product 2 none [.ref (D.2.2 10 r0)] μ (pV q) :=
  Ctr_of rfl (by decide) (Nat.le_of_ble_eq_true rfl) (fun Γ => g_sub [0] rfl (h Γ))
def pt_X10_primary_0 (l : Launch) (D : gD) (d : Nat) (q : gMem → Prop) (Γ : gC) (r0 : Nat) (μ : gMem) : Prop := G l D RX10 cX10_primary 2 none d (pV q) Γ 0 [(0, .ref (D.2.2 10 r0))] [] μ
def pt_X10_primary_1 (l : Launch) (D : gD) (d : Nat) (q : gMem → Prop) (Γ : gC) (r0 : Nat) (μ : gMem) : Prop := G l D RX10 cX10_primary 2 none d (pV q) Γ 31 [(0, .ref (D.2.2 10 r0))] [] μ
def pt_X10_primary_2 (l : Launch) (D : gD) (d : Nat) (q : gMem → Prop) (Γ : gC) (r0 : Nat) (μ : gMem) : Prop := G l D RX10 cX10_primary 2 none d (pV q) Γ 78 [(0, .ref (D.2.2 10 r0))] [] μ
def pt_X10_primary_3 (l : Launch) (D : gD) (d : Nat) (q : gMem → Prop) (Γ : gC) (r0 : Nat) (xs0 : Int32) (μ : gMem) : Prop := G l D RX10 cX10_primary 2 none d (pV q) Γ 114 [(0, .ref (D.2.2 10 r0))] [.int xs0] μ
def pt_X10_primary_4 (l : Launch) (D : gD) (d : Nat) (q : gMem → Prop) (Γ : gC) (r0 : Nat) (x1 : Int32) (μ : gMem) : Prop := G l D RX10 cX10_primary 2 none d (pV q) Γ 137 [(0, .ref (D.2.2 10 r0)), (1, .int x1)] [] μ
def pt_X10_primary_5 (l : Launch) (D : gD) (d : Nat) (q : gMem → Prop) (Γ : gC) (r0 : Nat) (x1 : Int32) (μ : gMem) : Prop := G l D RX10 cX10_primary 2 none d (pV q) Γ 157 [(0, .ref (D.2.2 10 r0)), (1, .int x1)] [] μ
def pt_X10_primary_6 (l : Launch) (D : gD) (d : Nat) (q : gMem → Prop) (Γ : gC) (r0 : Nat) (x1 : Int32) (μ : gMem) : Prop := G l D RX10 cX10_primary 2 none d (pV q) Γ 162 [(0, .ref (D.2.2 10 r0)), (1, .int x1)] [] μ
def pt_X10_primary_7 (l : Launch) (D : gD) (d : Nat) (q : gMem → Prop) (Γ : gC) (r0 : Nat) (x1 : Int32) (rs0 : Nat) (xs1 : Int32) (μ : gMem) : Prop := G l D RX10 cX10_primary 2 none d (pV q) Γ 176 [(0, .ref (D.2.2 10 r0)), (1, .int x1)] [.int xs1, .ref (D.2.2 10 rs0)] μ
def pt_X10_primary_8 (l : Launch) (D : gD) (d : Nat) (q : gMem → Prop) (Γ : gC) (r0 : Nat) (rs0 : Nat) (xs1 : Int32) (xs2 : Int32) (μ : gMem) : Prop := G l D RX10 cX10_primary 2 none d (pV q) Γ 194 [(0, .ref (D.2.2 10 r0))] [.int xs2, .int xs1, .ref (D.2.2 10 rs0)] μ
set_option maxRecDepth 20000 in
set_option maxHeartbeats 4000000 in
theorem bl_X10_primary_0 {l : Launch} {D : gD} {d : Nat} {q : gMem → Prop} {Γ : gC} {r0 : Nat} {μ : gMem} (hr0 : r0 < 1) (h : (((μ.1 10 r0 24) = 0) → (0 < d) ∧ ((((bI (μ.1 10 r0 24 = 0 ∧ μ.1 10 r0 22 = (3 : Int32) ∧ μ.1 10 r0 23 = (40 : Int32))) = 0) → ((¬ (μ.1 10 r0 22) = (2 : Int32)) → pt_X10_primary_3 l D d q Γ r0 (0 : Int32) μ) ∧ (((μ.1 10 r0 22) = (2 : Int32)) → pt_X10_primary_3 l D d q Γ r0 (1 : Int32) μ)) ∧ ((¬ (bI (μ.1 10 r0 24 = 0 ∧ μ.1 10 r0 22 = (3 : Int32) ∧ μ.1 10 r0 23 = (40 : Int32))) = 0) → ((¬ (μ.1 10 r0 28) = (8 : Int32)) → pt_X10_primary_1 l D d q Γ r0 μ) ∧ (((μ.1 10 r0 28) = (8 : Int32)) → ∃ (d_9 : Nat) (q_10 : gMem → Prop), d_9 < d ∧ Ctr l D d_9 yX10_wrong cX10_wrong 2 none [.ref (D.2.2 10 r0), .int (2 : Int32)] μ (pV q_10) ∧ ∀ (μ_13 : gMem), q_10 μ_13 → pt_X10_primary_1 l D d q Γ r0 μ_13)))) ∧ ((¬ (μ.1 10 r0 24) = 0) → q μ)) : pt_X10_primary_0 l D d q Γ r0 μ := by
  unfold pt_X10_primary_0
  refine g_aload_n dX10_primary_0 rfl ?_
  refine g_gfI fi_10_199 hr0 dX10_primary_1 ?_
  refine g_if_eq (tgt := 8) dX10_primary_4 (by decide) (fun c_1 => ?_) (fun c_1 => ?_)
  · have h := h.1 c_1
    refine g_aload_n dX10_primary_8 rfl ?_
    refine g_bipush (40 : Int32) dX10_primary_9 rfl ?_
    obtain ⟨hd_2, h⟩ := h
    refine g_cV ca_X10_243 ob_10 (c_X10_isSign (d := 0) (Nat.le_refl _) hr0 ) hd_2 (by decide) hr0 rfl rfl (by first | exact Nat.le_of_ble_eq_true rfl | decide) dX10_primary_11 (kI (fun v_3 μ_4 hq_5 => ?_))
    obtain ⟨ev_3, eμ_4⟩ := hq_5
    subst ev_3
    refine g_mem eμ_4 ?_
    refine g_if_eq (tgt := 101) dX10_primary_14 (by decide) (fun c_6 => ?_) (fun c_6 => ?_)
    · have h := h.1 c_6
      refine g_aload_n dX10_primary_101 rfl ?_
      refine g_gfI fi_10_164 hr0 dX10_primary_102 ?_
      refine g_iconst (2 : Int32) dX10_primary_105 rfl ?_
      refine g_icmp_ne (tgt := 113) dX10_primary_106 (by decide) (fun c_7 => ?_) (fun c_7 => ?_)
      · have h := h.1 c_7
        refine g_iconst (0 : Int32) dX10_primary_113 rfl ?_
        exact g_sub [0] rfl h
      · have h := h.2 c_7
        refine g_iconst (1 : Int32) dX10_primary_109 rfl ?_
        refine g_goto (tgt := 114) dX10_primary_110 (by decide) ?_
        exact g_sub [0] rfl h
    · have h := h.2 c_6
      refine g_aload_n dX10_primary_17 rfl ?_
      refine g_gfI fi_10_285 hr0 dX10_primary_18 ?_
      refine g_bipush (8 : Int32) dX10_primary_21 rfl ?_
      refine g_icmp_ne (tgt := 31) dX10_primary_23 (by decide) (fun c_8 => ?_) (fun c_8 => ?_)
      · have h := h.1 c_8
        exact g_sub [0] rfl h
      · have h := h.2 c_8
        refine g_aload_n dX10_primary_26 rfl ?_
        refine g_iconst (2 : Int32) dX10_primary_27 rfl ?_
        obtain ⟨d_9, q_10, hd_11, hc_12, h⟩ := h
        refine g_cV ca_X10_208 ob_10 hc_12 hd_11 (by decide) hr0 rfl rfl (by first | exact Nat.le_of_ble_eq_true rfl | decide) dX10_primary_28 (kV (fun μ_13 hq_15 => ?_))
        have h := h μ_13 hq_15
        exact g_sub [0] rfl h
  · have h := h.2 c_1
    exact g_vret dX10_primary_7 rfl ⟨rfl, h⟩
set_option maxRecDepth 20000 in
set_option maxHeartbeats 4000000 in
theorem bl_X10_primary_1 {l : Launch} {D : gD} {d : Nat} {q : gMem → Prop} {Γ : gC} {r0 : Nat} {μ : gMem} (hr0 : r0 < 1) (h : (((μ.1 10 r0 24) = 0) → ∀ μ_2 : gMem, μ_2 = gsI μ 10 r0 28 ((μ.1 10 r0 28) + (1 : Int32)) → ∃ (d_3 : Nat) (q_4 : gMem → Prop), d_3 < d ∧ Ctr l D d_3 yX10_token cX10_token 2 none [.ref (D.2.2 10 r0)] μ_2 (pV q_4) ∧ ∀ (μ_7 : gMem), q_4 μ_7 → ∃ (d_10 : Nat) (q_11 : gMem → Prop), d_10 < d ∧ Ctr l D d_10 yX10_expression cX10_expression 1 none [.ref (D.2.2 10 r0)] μ_7 (pV q_11) ∧ ∀ (μ_14 : gMem), q_11 μ_14 → ((¬ (μ_14.1 10 r0 24) = 0) → pt_X10_primary_2 l D d q Γ r0 μ_14) ∧ (((μ_14.1 10 r0 24) = 0) → (0 < d) ∧ (((¬ (bI (μ_14.1 10 r0 24 = 0 ∧ μ_14.1 10 r0 22 = (3 : Int32) ∧ μ_14.1 10 r0 23 = (41 : Int32))) = 0) → pt_X10_primary_2 l D d q Γ r0 μ_14) ∧ (((bI (μ_14.1 10 r0 24 = 0 ∧ μ_14.1 10 r0 22 = (3 : Int32) ∧ μ_14.1 10 r0 23 = (41 : Int32))) = 0) → ∃ (d_23 : Nat) (q_24 : gMem → Prop), d_23 < d ∧ Ctr l D d_23 yX10_wrong cX10_wrong 2 none [.ref (D.2.2 10 r0), .int (1 : Int32)] μ_14 (pV q_24) ∧ ∀ (μ_27 : gMem), q_24 μ_27 → pt_X10_primary_2 l D d q Γ r0 μ_27)))) ∧ ((¬ (μ.1 10 r0 24) = 0) → q μ)) : pt_X10_primary_1 l D d q Γ r0 μ := by
  unfold pt_X10_primary_1
  refine g_aload_n dX10_primary_31 rfl ?_
  refine g_gfI fi_10_199 hr0 dX10_primary_32 ?_
  refine g_if_eq (tgt := 39) dX10_primary_35 (by decide) (fun c_1 => ?_) (fun c_1 => ?_)
  · have h := h.1 c_1
    refine g_aload_n dX10_primary_39 rfl ?_
    refine g_dup dX10_primary_40 rfl ?_
    refine g_gfI fi_10_285 hr0 dX10_primary_41 ?_
    refine g_iconst (1 : Int32) dX10_primary_44 rfl ?_
    refine g_iadd dX10_primary_45 ?_
    refine g_pfI fi_10_285 hr0 rfl rfl dX10_primary_46 ?_
    obtain ⟨μ_2, eμ_2⟩ : ∃ z : gMem, z = gsI μ 10 r0 28 ((μ.1 10 r0 28) + (1 : Int32)) := ⟨_, rfl⟩
    have h := h μ_2 eμ_2
    refine g_mem eμ_2.symm ?_
    refine g_aload_n dX10_primary_49 rfl ?_
    obtain ⟨d_3, q_4, hd_5, hc_6, h⟩ := h
    refine g_cV ca_X10_205 ob_10 hc_6 hd_5 (by decide) hr0 rfl rfl (by first | exact Nat.le_of_ble_eq_true rfl | decide) dX10_primary_50 (kV (fun μ_7 hq_9 => ?_))
    have h := h μ_7 hq_9
    refine g_aload_n dX10_primary_53 rfl ?_
    obtain ⟨d_10, q_11, hd_12, hc_13, h⟩ := h
    refine g_cV ca_X10_255 ob_10 hc_13 hd_12 (by decide) hr0 rfl rfl (by first | exact Nat.le_of_ble_eq_true rfl | decide) dX10_primary_54 (kV (fun μ_14 hq_16 => ?_))
    have h := h μ_14 hq_16
    refine g_aload_n dX10_primary_57 rfl ?_
    refine g_gfI fi_10_199 hr0 dX10_primary_58 ?_
    refine g_if_ne (tgt := 78) dX10_primary_61 (by decide) (fun c_17 => ?_) (fun c_17 => ?_)
    · have h := h.1 c_17
      exact g_sub [0] rfl h
    · have h := h.2 c_17
      refine g_aload_n dX10_primary_64 rfl ?_
      refine g_bipush (41 : Int32) dX10_primary_65 rfl ?_
      obtain ⟨hd_18, h⟩ := h
      refine g_cV ca_X10_243 ob_10 (c_X10_isSign (d := 0) (Nat.le_refl _) hr0 ) hd_18 (by decide) hr0 rfl rfl (by first | exact Nat.le_of_ble_eq_true rfl | decide) dX10_primary_67 (kI (fun v_19 μ_20 hq_21 => ?_))
      obtain ⟨ev_19, eμ_20⟩ := hq_21
      subst ev_19
      refine g_mem eμ_20 ?_
      refine g_if_ne (tgt := 78) dX10_primary_70 (by decide) (fun c_22 => ?_) (fun c_22 => ?_)
      · have h := h.1 c_22
        exact g_sub [0] rfl h
      · have h := h.2 c_22
        refine g_aload_n dX10_primary_73 rfl ?_
        refine g_iconst (1 : Int32) dX10_primary_74 rfl ?_
        obtain ⟨d_23, q_24, hd_25, hc_26, h⟩ := h
        refine g_cV ca_X10_208 ob_10 hc_26 hd_25 (by decide) hr0 rfl rfl (by first | exact Nat.le_of_ble_eq_true rfl | decide) dX10_primary_75 (kV (fun μ_27 hq_29 => ?_))
        have h := h μ_27 hq_29
        exact g_sub [0] rfl h
  · have h := h.2 c_1
    exact g_vret dX10_primary_38 rfl ⟨rfl, h⟩
set_option maxRecDepth 20000 in
set_option maxHeartbeats 4000000 in
theorem bl_X10_primary_2 {l : Launch} {D : gD} {d : Nat} {q : gMem → Prop} {Γ : gC} {r0 : Nat} {μ : gMem} (hr0 : r0 < 1) (h : (((μ.1 10 r0 24) = 0) → ∀ μ_2 : gMem, μ_2 = gsI μ 10 r0 28 ((μ.1 10 r0 28) - (1 : Int32)) → ∃ (d_3 : Nat) (q_4 : gMem → Prop), d_3 < d ∧ Ctr l D d_3 yX10_token cX10_token 2 none [.ref (D.2.2 10 r0)] μ_2 (pV q_4) ∧ ∀ (μ_7 : gMem), q_4 μ_7 → q μ_7) ∧ ((¬ (μ.1 10 r0 24) = 0) → q μ)) : pt_X10_primary_2 l D d q Γ r0 μ := by
  unfold pt_X10_primary_2
  refine g_aload_n dX10_primary_78 rfl ?_
  refine g_gfI fi_10_199 hr0 dX10_primary_79 ?_
  refine g_if_eq (tgt := 86) dX10_primary_82 (by decide) (fun c_1 => ?_) (fun c_1 => ?_)
  · have h := h.1 c_1
    refine g_aload_n dX10_primary_86 rfl ?_
    refine g_dup dX10_primary_87 rfl ?_
    refine g_gfI fi_10_285 hr0 dX10_primary_88 ?_
    refine g_iconst (1 : Int32) dX10_primary_91 rfl ?_
    refine g_isub dX10_primary_92 ?_
    refine g_pfI fi_10_285 hr0 rfl rfl dX10_primary_93 ?_
    obtain ⟨μ_2, eμ_2⟩ : ∃ z : gMem, z = gsI μ 10 r0 28 ((μ.1 10 r0 28) - (1 : Int32)) := ⟨_, rfl⟩
    have h := h μ_2 eμ_2
    refine g_mem eμ_2.symm ?_
    refine g_aload_n dX10_primary_96 rfl ?_
    obtain ⟨d_3, q_4, hd_5, hc_6, h⟩ := h
    refine g_cV ca_X10_205 ob_10 hc_6 hd_5 (by decide) hr0 rfl rfl (by first | exact Nat.le_of_ble_eq_true rfl | decide) dX10_primary_97 (kV (fun μ_7 hq_9 => ?_))
    have h := h μ_7 hq_9
    exact g_vret dX10_primary_100 rfl ⟨rfl, h⟩
  · have h := h.2 c_1
    exact g_vret dX10_primary_85 rfl ⟨rfl, h⟩
set_option maxRecDepth 20000 in
set_option maxHeartbeats 4000000 in
theorem bl_X10_primary_3 {l : Launch} {D : gD} {d : Nat} {q : gMem → Prop} {Γ : gC} {r0 : Nat} {xs0 : Int32} {μ : gMem} (hr0 : r0 < 1) (h : ∀ x1_1 : Int32, x1_1 = xs0 → ((x1_1 = 0) → pt_X10_primary_4 l D d q Γ r0 x1_1 μ) ∧ ((¬ x1_1 = 0) → (((μ.1 10 r0 23) ≤ (9999 : Int32)) → pt_X10_primary_4 l D d q Γ r0 x1_1 μ) ∧ ((¬ (μ.1 10 r0 23) ≤ (9999 : Int32)) → ∃ (d_4 : Nat) (q_5 : gMem → Prop), d_4 < d ∧ Ctr l D d_4 yX10_wrong cX10_wrong 2 none [.ref (D.2.2 10 r0), .int (2 : Int32)] μ (pV q_5) ∧ ∀ (μ_8 : gMem), q_5 μ_8 → pt_X10_primary_6 l D d q Γ r0 x1_1 μ_8))) : pt_X10_primary_3 l D d q Γ r0 xs0 μ := by
  unfold pt_X10_primary_3
  refine g_istore_n dX10_primary_114 (by decide) (fun x1_1 ex1_1 => g_sub (lv' := [(0, .ref (D.2.2 10 r0)), (1, .int x1_1)]) [1, 0] rfl ?_)
  have h := h x1_1 ex1_1
  refine g_iload_n dX10_primary_115 rfl ?_
  refine g_if_eq (tgt := 137) dX10_primary_116 (by decide) (fun c_2 => ?_) (fun c_2 => ?_)
  · have h := h.1 c_2
    exact g_sub [0, 1] rfl h
  · have h := h.2 c_2
    refine g_aload_n dX10_primary_119 rfl ?_
    refine g_gfI fi_10_174 hr0 dX10_primary_120 ?_
    refine g_sipush (9999 : Int32) dX10_primary_123 rfl ?_
    refine g_icmp_le (tgt := 137) dX10_primary_126 (by decide) (fun c_3 => ?_) (fun c_3 => ?_)
    · have h := h.1 c_3
      exact g_sub [0, 1] rfl h
    · have h := h.2 c_3
      refine g_aload_n dX10_primary_129 rfl ?_
      refine g_iconst (2 : Int32) dX10_primary_130 rfl ?_
      obtain ⟨d_4, q_5, hd_6, hc_7, h⟩ := h
      refine g_cV ca_X10_208 ob_10 hc_7 hd_6 (by decide) hr0 rfl rfl (by first | exact Nat.le_of_ble_eq_true rfl | decide) dX10_primary_131 (kV (fun μ_8 hq_10 => ?_))
      have h := h μ_8 hq_10
      refine g_goto (tgt := 162) dX10_primary_134 (by decide) ?_
      exact g_sub [0, 1] rfl h
set_option maxRecDepth 20000 in
set_option maxHeartbeats 4000000 in
theorem bl_X10_primary_4 {l : Launch} {D : gD} {d : Nat} {q : gMem → Prop} {Γ : gC} {r0 : Nat} {x1 : Int32} {μ : gMem} (hr0 : r0 < 1) (h : ((¬ x1 = 0) → pt_X10_primary_6 l D d q Γ r0 x1 μ) ∧ ((x1 = 0) → ((¬ (μ.1 10 r0 22) = 0) → pt_X10_primary_5 l D d q Γ r0 x1 μ) ∧ (((μ.1 10 r0 22) = 0) → (((14 : Int32) ≤ (μ.1 10 r0 23)) → pt_X10_primary_6 l D d q Γ r0 x1 μ) ∧ ((¬ (14 : Int32) ≤ (μ.1 10 r0 23)) → pt_X10_primary_5 l D d q Γ r0 x1 μ)))) : pt_X10_primary_4 l D d q Γ r0 x1 μ := by
  unfold pt_X10_primary_4
  refine g_iload_n dX10_primary_137 rfl ?_
  refine g_if_ne (tgt := 162) dX10_primary_138 (by decide) (fun c_1 => ?_) (fun c_1 => ?_)
  · have h := h.1 c_1
    exact g_sub [0, 1] rfl h
  · have h := h.2 c_1
    refine g_aload_n dX10_primary_141 rfl ?_
    refine g_gfI fi_10_164 hr0 dX10_primary_142 ?_
    refine g_if_ne (tgt := 157) dX10_primary_145 (by decide) (fun c_2 => ?_) (fun c_2 => ?_)
    · have h := h.1 c_2
      exact g_sub [0, 1] rfl h
    · have h := h.2 c_2
      refine g_aload_n dX10_primary_148 rfl ?_
      refine g_gfI fi_10_174 hr0 dX10_primary_149 ?_
      refine g_bipush (14 : Int32) dX10_primary_152 rfl ?_
      refine g_icmp_ge (tgt := 162) dX10_primary_154 (by decide) (fun c_3 => ?_) (fun c_3 => ?_)
      · have h := h.1 c_3
        exact g_sub [0, 1] rfl h
      · have h := h.2 c_3
        exact g_sub [0, 1] rfl h
set_option maxRecDepth 20000 in
set_option maxHeartbeats 4000000 in
theorem bl_X10_primary_5 {l : Launch} {D : gD} {d : Nat} {q : gMem → Prop} {Γ : gC} {r0 : Nat} {x1 : Int32} {μ : gMem} (hr0 : r0 < 1) (h : ∃ (d_1 : Nat) (q_2 : gMem → Prop), d_1 < d ∧ Ctr l D d_1 yX10_wrong cX10_wrong 2 none [.ref (D.2.2 10 r0), .int (1 : Int32)] μ (pV q_2) ∧ ∀ (μ_5 : gMem), q_2 μ_5 → pt_X10_primary_6 l D d q Γ r0 x1 μ_5) : pt_X10_primary_5 l D d q Γ r0 x1 μ := by
  unfold pt_X10_primary_5
  refine g_aload_n dX10_primary_157 rfl ?_
  refine g_iconst (1 : Int32) dX10_primary_158 rfl ?_
  obtain ⟨d_1, q_2, hd_3, hc_4, h⟩ := h
  refine g_cV ca_X10_208 ob_10 hc_4 hd_3 (by decide) hr0 rfl rfl (by first | exact Nat.le_of_ble_eq_true rfl | decide) dX10_primary_159 (kV (fun μ_5 hq_7 => ?_))
  have h := h μ_5 hq_7
  exact g_sub [0, 1] rfl h
set_option maxRecDepth 20000 in
set_option maxHeartbeats 4000000 in
theorem bl_X10_primary_6 {l : Launch} {D : gD} {d : Nat} {q : gMem → Prop} {Γ : gC} {r0 : Nat} {x1 : Int32} {μ : gMem} (hr0 : r0 < 1) (h : ∃ (d_1 : Nat) (q_2 : gMem → Prop), d_1 < d ∧ Ctr l D d_1 yX10_knot cX10_knot 1 none [.ref (D.2.2 10 r0)] μ (pV q_2) ∧ ∀ (μ_5 : gMem), q_2 μ_5 → ((x1 = 0) → pt_X10_primary_7 l D d q Γ r0 x1 r0 (1 : Int32) μ_5) ∧ ((¬ x1 = 0) → pt_X10_primary_7 l D d q Γ r0 x1 r0 (0 : Int32) μ_5)) : pt_X10_primary_6 l D d q Γ r0 x1 μ := by
  unfold pt_X10_primary_6
  refine g_aload_n dX10_primary_162 rfl ?_
  obtain ⟨d_1, q_2, hd_3, hc_4, h⟩ := h
  refine g_cV ca_X10_267 ob_10 hc_4 hd_3 (by decide) hr0 rfl rfl (by first | exact Nat.le_of_ble_eq_true rfl | decide) dX10_primary_163 (kV (fun μ_5 hq_7 => ?_))
  have h := h μ_5 hq_7
  refine g_aload_n dX10_primary_166 rfl ?_
  refine g_iload_n dX10_primary_167 rfl ?_
  refine g_if_eq (tgt := 175) dX10_primary_168 (by decide) (fun c_8 => ?_) (fun c_8 => ?_)
  · have h := h.1 c_8
    refine g_iconst (1 : Int32) dX10_primary_175 rfl ?_
    exact g_sub [0, 1] rfl h
  · have h := h.2 c_8
    refine g_iconst (0 : Int32) dX10_primary_171 rfl ?_
    refine g_goto (tgt := 176) dX10_primary_172 (by decide) ?_
    exact g_sub [0, 1] rfl h
set_option maxRecDepth 20000 in
set_option maxHeartbeats 4000000 in
theorem bl_X10_primary_7 {l : Launch} {D : gD} {d : Nat} {q : gMem → Prop} {Γ : gC} {r0 : Nat} {x1 : Int32} {rs0 : Nat} {xs1 : Int32} {μ : gMem} (hr0 : r0 < 1) (hrs0 : rs0 < 1) (h : ((x1 = 0) → pt_X10_primary_8 l D d q Γ r0 rs0 xs1 ((μ.1 10 r0 23) - (14 : Int32)) μ) ∧ ((¬ x1 = 0) → pt_X10_primary_8 l D d q Γ r0 rs0 xs1 (μ.1 10 r0 23) μ)) : pt_X10_primary_7 l D d q Γ r0 x1 rs0 xs1 μ := by
  unfold pt_X10_primary_7
  refine g_iload_n dX10_primary_176 rfl ?_
  refine g_if_eq (tgt := 187) dX10_primary_177 (by decide) (fun c_1 => ?_) (fun c_1 => ?_)
  · have h := h.1 c_1
    refine g_aload_n dX10_primary_187 rfl ?_
    refine g_gfI fi_10_174 hr0 dX10_primary_188 ?_
    refine g_bipush (14 : Int32) dX10_primary_191 rfl ?_
    refine g_isub dX10_primary_193 ?_
    exact g_sub [0] rfl h
  · have h := h.2 c_1
    refine g_aload_n dX10_primary_180 rfl ?_
    refine g_gfI fi_10_174 hr0 dX10_primary_181 ?_
    refine g_goto (tgt := 194) dX10_primary_184 (by decide) ?_
    exact g_sub [0] rfl h
set_option maxRecDepth 20000 in
set_option maxHeartbeats 4000000 in
theorem bl_X10_primary_8 {l : Launch} {D : gD} {d : Nat} {q : gMem → Prop} {Γ : gC} {r0 : Nat} {rs0 : Nat} {xs1 : Int32} {xs2 : Int32} {μ : gMem} (hr0 : r0 < 1) (hrs0 : rs0 < 1) (h : ∃ (d_1 : Nat) (q_2 : gMem → Prop), d_1 < d ∧ Ctr l D d_1 yX10_puts cX10_puts 3 none [.ref (D.2.2 10 rs0), .int xs1, .int xs2] μ (pV q_2) ∧ ∀ (μ_5 : gMem), q_2 μ_5 → ∃ (d_8 : Nat) (q_9 : gMem → Prop), d_8 < d ∧ Ctr l D d_8 yX10_goOn cX10_goOn 1 none [.ref (D.2.2 10 r0)] μ_5 (pV q_9) ∧ ∀ (μ_12 : gMem), q_9 μ_12 → q μ_12) : pt_X10_primary_8 l D d q Γ r0 rs0 xs1 xs2 μ := by
  unfold pt_X10_primary_8
  obtain ⟨d_1, q_2, hd_3, hc_4, h⟩ := h
  refine g_cV ca_X10_270 ob_10 hc_4 hd_3 (by decide) hrs0 rfl rfl (by first | exact Nat.le_of_ble_eq_true rfl | decide) dX10_primary_194 (kV (fun μ_5 hq_7 => ?_))
  have h := h μ_5 hq_7
  refine g_aload_n dX10_primary_197 rfl ?_
  obtain ⟨d_8, q_9, hd_10, hc_11, h⟩ := h
  refine g_cV ca_X10_252 ob_10 hc_11 hd_10 (by decide) hr0 rfl rfl (by first | exact Nat.le_of_ble_eq_true rfl | decide) dX10_primary_198 (kV (fun μ_12 hq_14 => ?_))
  have h := h μ_12 hq_14
  exact g_vret dX10_primary_201 rfl ⟨rfl, h⟩
theorem en_X10_primary {l : Launch} {D : gD} {d : Nat} {q : gMem → Prop} {r0 : Nat} {μ : gMem} (h : ∀ Γ : gC, pt_X10_primary_0 l D d q Γ r0 μ) : Ctr l D d yX10_primary cX10_primary 2 none [.ref (D.2.2 10 r0)] μ (pV q) :=
  Ctr_of rfl (by decide) (Nat.le_of_ble_eq_true rfl) (fun Γ => g_sub [0] rfl (h Γ))
def pt_X10_half_0 (l : Launch) (D : gD) (d : Nat) (q : gMem → Prop) (Γ : gC) (k0 : Nat) (i0 : Nat) (μ : gMem) : Prop := G l D RX10 cX10_half 3 none d (pV q) Γ 0 [(0, .ref (D.2.2 k0 i0))] [] μ
def pt_X10_half_1 (l : Launch) (D : gD) (d : Nat) (q : gMem → Prop) (Γ : gC) (k0 : Nat) (i0 : Nat) (x1 : Int32) (x2 : Int32) (μ : gMem) : Prop := G l D RX10 cX10_half 3 none d (pV q) Γ 7 [(0, .ref (D.2.2 k0 i0)), (1, .int x1), (2, .int x2)] [] μ
set_option maxRecDepth 20000 in
set_option maxHeartbeats 4000000 in
theorem bl_X10_half_0 {l : Launch} {D : gD} {d : Nat} {q : gMem → Prop} {Γ : gC} {k0 : Nat} {i0 : Nat} {μ : gMem} (hk0 : gsh k0 = (1, (gsh k0).2.1, 0)) (hi0 : i0 < gkn k0) (h : ∀ x1_1 : Int32, x1_1 = (nI (gsh k0).2.1) / (2 : Int32) → ∀ x2_2 : Int32, x2_2 = (0 : Int32) → pt_X10_half_1 l D d q Γ k0 i0 x1_1 x2_2 μ) : pt_X10_half_0 l D d q Γ k0 i0 μ := by
  unfold pt_X10_half_0
  refine g_aload_n dX10_half_0 rfl ?_
  refine g_alen hi0 hk0 (Or.inl rfl) dX10_half_1 ?_
  refine g_iconst (2 : Int32) dX10_half_2 rfl ?_
  refine g_idiv dX10_half_3 (by decide) ?_
  refine g_istore_n dX10_half_4 (by decide) (fun x1_1 ex1_1 => g_sub (lv' := [(0, .ref (D.2.2 k0 i0)), (1, .int x1_1)]) [1, 0] rfl ?_)
  have h := h x1_1 ex1_1
  refine g_iconst (0 : Int32) dX10_half_5 rfl ?_
  refine g_istore_n dX10_half_6 (by decide) (fun x2_2 ex2_2 => g_sub (lv' := [(0, .ref (D.2.2 k0 i0)), (1, .int x1_1), (2, .int x2_2)]) [1, 2, 0] rfl ?_)
  have h := h x2_2 ex2_2
  exact g_sub [0, 1, 2] rfl h
set_option maxRecDepth 20000 in
set_option maxHeartbeats 4000000 in
theorem bl_X10_half_1 {l : Launch} {D : gD} {d : Nat} {q : gMem → Prop} {Γ : gC} {k0 : Nat} {i0 : Nat} {x1 : Int32} {x2 : Int32} {μ : gMem} (hk0 : gsh k0 = (1, (gsh k0).2.1, 0)) (hi0 : i0 < gkn k0) (h : ((x1 ≤ x2) → q μ) ∧ ((¬ x1 ≤ x2) → ∃ j_2 : Nat, j_2 < (gsh k0).2.1 ∧ (gsh k0).2.1 < 2 ^ 31 ∧ x1 + x2 = nI j_2 ∧ (∃ j_4 : Nat, j_4 < (gsh k0).2.1 ∧ (gsh k0).2.1 < 2 ^ 31 ∧ x2 = nI j_4 ∧ (∀ μ_5 : gMem, μ_5 = gsI μ k0 i0 j_4 (μ.1 k0 i0 j_2) → ∀ x2_7 : Int32, x2_7 = x2 + (1 : Int32) → pt_X10_half_1 l D d q Γ k0 i0 x1 x2_7 μ_5)))) : pt_X10_half_1 l D d q Γ k0 i0 x1 x2 μ := by
  unfold pt_X10_half_1
  refine g_iload_n dX10_half_7 rfl ?_
  refine g_iload_n dX10_half_8 rfl ?_
  refine g_icmp_ge (tgt := 26) dX10_half_9 (by decide) (fun c_1 => ?_) (fun c_1 => ?_)
  · have h := h.1 c_1
    exact g_vret dX10_half_26 rfl ⟨rfl, h⟩
  · have h := h.2 c_1
    refine g_aload_n dX10_half_12 rfl ?_
    refine g_iload_n dX10_half_13 rfl ?_
    refine g_aload_n dX10_half_14 rfl ?_
    refine g_iload_n dX10_half_15 rfl ?_
    refine g_iload_n dX10_half_16 rfl ?_
    refine g_iadd dX10_half_17 ?_
    obtain ⟨j_2, hj_2, hn_3, ej_2, h⟩ := h
    refine g_iald j_2 hi0 hk0 hj_2 hn_3 ej_2 dX10_half_18 ?_
    obtain ⟨j_4, hj_4, hn_6, ej_4, h⟩ := h
    refine g_iast j_4 hi0 hk0 hj_4 hn_6 ej_4 dX10_half_19 ?_
    obtain ⟨μ_5, eμ_5⟩ : ∃ z : gMem, z = gsI μ k0 i0 j_4 (μ.1 k0 i0 j_2) := ⟨_, rfl⟩
    have h := h μ_5 eμ_5
    refine g_mem eμ_5.symm ?_
    refine g_iinc dX10_half_20 rfl (by decide) (fun x2_7 ex2_7 => g_sub (lv' := [(0, .ref (D.2.2 k0 i0)), (1, .int x1), (2, .int x2_7)]) [1, 2, 0] rfl ?_)
    have h := h x2_7 ex2_7
    refine g_goto (tgt := 7) dX10_half_23 (by decide) ?_
    exact g_sub [0, 1, 2] rfl h
theorem en_X10_half {l : Launch} {D : gD} {d : Nat} {q : gMem → Prop} {k0 : Nat} {i0 : Nat} {μ : gMem} (h : ∀ Γ : gC, pt_X10_half_0 l D d q Γ k0 i0 μ) : Ctr l D d yX10_half cX10_half 3 none [.ref (D.2.2 k0 i0)] μ (pV q) :=
  Ctr_of rfl (by decide) (Nat.le_of_ble_eq_true rfl) (fun Γ => g_sub [0] rfl (h Γ))
def pt_X10_text_0 (l : Launch) (D : gD) (d : Nat) (q : Int32 → gMem → Prop) (Γ : gC) (r0 : Nat) (x1 : Int32) (μ : gMem) : Prop := G l D RX10 cX10_text 3 (some .int) d (pI q) Γ 0 [(0, .ref (D.2.2 10 r0)), (1, .int x1)] [] μ
def pt_X10_text_1 (l : Launch) (D : gD) (d : Nat) (q : Int32 → gMem → Prop) (Γ : gC) (r0 : Nat) (x2 : Int32) (μ : gMem) : Prop := G l D RX10 cX10_text 3 (some .int) d (pI q) Γ 47 [(0, .ref (D.2.2 10 r0)), (2, .int x2)] [] μ
def pt_X10_text_2 (l : Launch) (D : gD) (d : Nat) (q : Int32 → gMem → Prop) (Γ : gC) (r0 : Nat) (x2 : Int32) (rs0 : Nat) (xs1 : Int32) (xs2 : Int32) (μ : gMem) : Prop := G l D RX10 cX10_text 3 (some .int) d (pI q) Γ 66 [(0, .ref (D.2.2 10 r0)), (2, .int x2)] [.int xs2, .int xs1, .ref (D.2.2 10 rs0)] μ
def pt_X10_text_3 (l : Launch) (D : gD) (d : Nat) (q : Int32 → gMem → Prop) (Γ : gC) (r0 : Nat) (x2 : Int32) (μ : gMem) : Prop := G l D RX10 cX10_text 3 (some .int) d (pI q) Γ 78 [(0, .ref (D.2.2 10 r0)), (2, .int x2)] [] μ
def pt_X10_text_4 (l : Launch) (D : gD) (d : Nat) (q : Int32 → gMem → Prop) (Γ : gC) (r0 : Nat) (x2 : Int32) (μ : gMem) : Prop := G l D RX10 cX10_text 3 (some .int) d (pI q) Γ 99 [(0, .ref (D.2.2 10 r0)), (2, .int x2)] [] μ
def pt_X10_text_5 (l : Launch) (D : gD) (d : Nat) (q : Int32 → gMem → Prop) (Γ : gC) (r0 : Nat) (μ : gMem) : Prop := G l D RX10 cX10_text 3 (some .int) d (pI q) Γ 149 [(0, .ref (D.2.2 10 r0))] [] μ
def pt_X10_text_6 (l : Launch) (D : gD) (d : Nat) (q : Int32 → gMem → Prop) (Γ : gC) (r0 : Nat) (μ : gMem) : Prop := G l D RX10 cX10_text 3 (some .int) d (pI q) Γ 171 [(0, .ref (D.2.2 10 r0))] [] μ
set_option maxRecDepth 20000 in
set_option maxHeartbeats 4000000 in
theorem bl_X10_text_0 {l : Launch} {D : gD} {d : Nat} {q : Int32 → gMem → Prop} {Γ : gC} {r0 : Nat} {x1 : Int32} {μ : gMem} (hr0 : r0 < 1) (h : ∀ μ_1 : gMem, μ_1 = gsI μ 10 r0 0 (0 : Int32) → ((x1 < 0) → q (-2 : Int32) μ_1) ∧ ((¬ x1 < 0) → ((x1 ≤ (μ_1.1 10 r0 2)) → ∀ μ_4 : gMem, μ_4 = gsI μ_1 10 r0 19 x1 → ∀ μ_5 : gMem, μ_5 = gsI μ_4 10 r0 2 (0 : Int32) → ∀ μ_6 : gMem, μ_6 = gsI μ_5 10 r0 20 (0 : Int32) → ∀ μ_7 : gMem, μ_7 = gsI μ_6 10 r0 24 (0 : Int32) → ∀ μ_8 : gMem, μ_8 = gsI μ_7 10 r0 25 (-1 : Int32) → ∀ x2_9 : Int32, x2_9 = (0 : Int32) → pt_X10_text_1 l D d q Γ r0 x2_9 μ_8) ∧ ((¬ x1 ≤ (μ_1.1 10 r0 2)) → q (-2 : Int32) μ_1))) : pt_X10_text_0 l D d q Γ r0 x1 μ := by
  unfold pt_X10_text_0
  refine g_aload_n dX10_text_0 rfl ?_
  refine g_iconst (0 : Int32) dX10_text_1 rfl ?_
  refine g_pfI fi_10_145 hr0 rfl rfl dX10_text_2 ?_
  obtain ⟨μ_1, eμ_1⟩ : ∃ z : gMem, z = gsI μ 10 r0 0 (0 : Int32) := ⟨_, rfl⟩
  have h := h μ_1 eμ_1
  refine g_mem eμ_1.symm ?_
  refine g_iload_n dX10_text_5 rfl ?_
  refine g_if_lt (tgt := 17) dX10_text_6 (by decide) (fun c_2 => ?_) (fun c_2 => ?_)
  · have h := h.1 c_2
    refine g_bipush (-2 : Int32) dX10_text_17 rfl ?_
    exact g_iret dX10_text_19 rfl rfl ⟨_, rfl, h⟩
  · have h := h.2 c_2
    refine g_iload_n dX10_text_9 rfl ?_
    refine g_aload_n dX10_text_10 rfl ?_
    refine g_gfI fi_10_148 hr0 dX10_text_11 ?_
    refine g_icmp_le (tgt := 20) dX10_text_14 (by decide) (fun c_3 => ?_) (fun c_3 => ?_)
    · have h := h.1 c_3
      refine g_aload_n dX10_text_20 rfl ?_
      refine g_iload_n dX10_text_21 rfl ?_
      refine g_pfI fi_10_154 hr0 rfl rfl dX10_text_22 ?_
      obtain ⟨μ_4, eμ_4⟩ : ∃ z : gMem, z = gsI μ_1 10 r0 19 x1 := ⟨_, rfl⟩
      have h := h μ_4 eμ_4
      refine g_mem eμ_4.symm ?_
      refine g_aload_n dX10_text_25 rfl ?_
      refine g_iconst (0 : Int32) dX10_text_26 rfl ?_
      refine g_pfI fi_10_148 hr0 rfl rfl dX10_text_27 ?_
      obtain ⟨μ_5, eμ_5⟩ : ∃ z : gMem, z = gsI μ_4 10 r0 2 (0 : Int32) := ⟨_, rfl⟩
      have h := h μ_5 eμ_5
      refine g_mem eμ_5.symm ?_
      refine g_aload_n dX10_text_30 rfl ?_
      refine g_iconst (0 : Int32) dX10_text_31 rfl ?_
      refine g_pfI fi_10_151 hr0 rfl rfl dX10_text_32 ?_
      obtain ⟨μ_6, eμ_6⟩ : ∃ z : gMem, z = gsI μ_5 10 r0 20 (0 : Int32) := ⟨_, rfl⟩
      have h := h μ_6 eμ_6
      refine g_mem eμ_6.symm ?_
      refine g_aload_n dX10_text_35 rfl ?_
      refine g_iconst (0 : Int32) dX10_text_36 rfl ?_
      refine g_pfI fi_10_199 hr0 rfl rfl dX10_text_37 ?_
      obtain ⟨μ_7, eμ_7⟩ : ∃ z : gMem, z = gsI μ_6 10 r0 24 (0 : Int32) := ⟨_, rfl⟩
      have h := h μ_7 eμ_7
      refine g_mem eμ_7.symm ?_
      refine g_aload_n dX10_text_40 rfl ?_
      refine g_iconst (-1 : Int32) dX10_text_41 rfl ?_
      refine g_pfI fi_10_202 hr0 rfl rfl dX10_text_42 ?_
      obtain ⟨μ_8, eμ_8⟩ : ∃ z : gMem, z = gsI μ_7 10 r0 25 (-1 : Int32) := ⟨_, rfl⟩
      have h := h μ_8 eμ_8
      refine g_mem eμ_8.symm ?_
      refine g_iconst (0 : Int32) dX10_text_45 rfl ?_
      refine g_istore_n dX10_text_46 (by decide) (fun x2_9 ex2_9 => g_sub (lv' := [(0, .ref (D.2.2 10 r0)), (2, .int x2_9)]) [1, 0] rfl ?_)
      have h := h x2_9 ex2_9
      exact g_sub [0, 1] rfl h
    · have h := h.2 c_3
      refine g_bipush (-2 : Int32) dX10_text_17 rfl ?_
      exact g_iret dX10_text_19 rfl rfl ⟨_, rfl, h⟩
set_option maxRecDepth 20000 in
set_option maxHeartbeats 4000000 in
theorem bl_X10_text_1 {l : Launch} {D : gD} {d : Nat} {q : Int32 → gMem → Prop} {Γ : gC} {r0 : Nat} {x2 : Int32} {μ : gMem} (hr0 : r0 < 1) (h : (((10 : Int32) ≤ x2) → ∀ x2_2 : Int32, x2_2 = (30 : Int32) → pt_X10_text_3 l D d q Γ r0 x2_2 μ) ∧ ((¬ (10 : Int32) ≤ x2) → ((¬ x2 = (4 : Int32)) → pt_X10_text_2 l D d q Γ r0 x2 r0 x2 (0 : Int32) μ) ∧ ((x2 = (4 : Int32)) → pt_X10_text_2 l D d q Γ r0 x2 r0 x2 (7 : Int32) μ))) : pt_X10_text_1 l D d q Γ r0 x2 μ := by
  unfold pt_X10_text_1
  refine g_iload_n dX10_text_47 rfl ?_
  refine g_bipush (10 : Int32) dX10_text_48 rfl ?_
  refine g_icmp_ge (tgt := 75) dX10_text_50 (by decide) (fun c_1 => ?_) (fun c_1 => ?_)
  · have h := h.1 c_1
    refine g_bipush (30 : Int32) dX10_text_75 rfl ?_
    refine g_istore_n dX10_text_77 (by decide) (fun x2_2 ex2_2 => g_sub (lv' := [(0, .ref (D.2.2 10 r0)), (2, .int x2_2)]) [1, 0] rfl ?_)
    have h := h x2_2 ex2_2
    exact g_sub [0, 1] rfl h
  · have h := h.2 c_1
    refine g_aload_n dX10_text_53 rfl ?_
    refine g_iload_n dX10_text_54 rfl ?_
    refine g_iload_n dX10_text_55 rfl ?_
    refine g_iconst (4 : Int32) dX10_text_56 rfl ?_
    refine g_icmp_ne (tgt := 65) dX10_text_57 (by decide) (fun c_3 => ?_) (fun c_3 => ?_)
    · have h := h.1 c_3
      refine g_iconst (0 : Int32) dX10_text_65 rfl ?_
      exact g_sub [0, 1] rfl h
    · have h := h.2 c_3
      refine g_bipush (7 : Int32) dX10_text_60 rfl ?_
      refine g_goto (tgt := 66) dX10_text_62 (by decide) ?_
      exact g_sub [0, 1] rfl h
set_option maxRecDepth 20000 in
set_option maxHeartbeats 4000000 in
theorem bl_X10_text_2 {l : Launch} {D : gD} {d : Nat} {q : Int32 → gMem → Prop} {Γ : gC} {r0 : Nat} {x2 : Int32} {rs0 : Nat} {xs1 : Int32} {xs2 : Int32} {μ : gMem} (hr0 : r0 < 1) (hrs0 : rs0 < 1) (h : ∃ (d_1 : Nat) (q_2 : gMem → Prop), d_1 < d ∧ Ctr l D d_1 yX10_reads cX10_reads 3 none [.ref (D.2.2 10 rs0), .int xs1, .int xs2] μ (pV q_2) ∧ ∀ (μ_5 : gMem), q_2 μ_5 → ∀ x2_8 : Int32, x2_8 = x2 + (1 : Int32) → pt_X10_text_1 l D d q Γ r0 x2_8 μ_5) : pt_X10_text_2 l D d q Γ r0 x2 rs0 xs1 xs2 μ := by
  unfold pt_X10_text_2
  obtain ⟨d_1, q_2, hd_3, hc_4, h⟩ := h
  refine g_cV ca_X10_233 ob_10 hc_4 hd_3 (by decide) hrs0 rfl rfl (by first | exact Nat.le_of_ble_eq_true rfl | decide) dX10_text_66 (kV (fun μ_5 hq_7 => ?_))
  have h := h μ_5 hq_7
  refine g_iinc dX10_text_69 rfl (by decide) (fun x2_8 ex2_8 => g_sub (lv' := [(0, .ref (D.2.2 10 r0)), (2, .int x2_8)]) [1, 0] rfl ?_)
  have h := h x2_8 ex2_8
  refine g_goto (tgt := 47) dX10_text_72 (by decide) ?_
  exact g_sub [0, 1] rfl h
set_option maxRecDepth 20000 in
set_option maxHeartbeats 4000000 in
theorem bl_X10_text_3 {l : Launch} {D : gD} {d : Nat} {q : Int32 → gMem → Prop} {Γ : gC} {r0 : Nat} {x2 : Int32} {μ : gMem} (hr0 : r0 < 1) (h : (((60 : Int32) ≤ x2) → ∀ x2_2 : Int32, x2_2 = (3 : Int32) → pt_X10_text_4 l D d q Γ r0 x2_2 μ) ∧ ((¬ (60 : Int32) ≤ x2) → ∃ j_3 : Nat, j_3 < 60 ∧ x2 = nI j_3 ∧ (∀ μ_4 : gMem, μ_4 = gsI μ 716 r0 j_3 (0 : Int32) → ∀ x2_5 : Int32, x2_5 = x2 + (1 : Int32) → pt_X10_text_3 l D d q Γ r0 x2_5 μ_4))) : pt_X10_text_3 l D d q Γ r0 x2 μ := by
  unfold pt_X10_text_3
  refine g_iload_n dX10_text_78 rfl ?_
  refine g_bipush (60 : Int32) dX10_text_79 rfl ?_
  refine g_icmp_ge (tgt := 97) dX10_text_81 (by decide) (fun c_1 => ?_) (fun c_1 => ?_)
  · have h := h.1 c_1
    refine g_iconst (3 : Int32) dX10_text_97 rfl ?_
    refine g_istore_n dX10_text_98 (by decide) (fun x2_2 ex2_2 => g_sub (lv' := [(0, .ref (D.2.2 10 r0)), (2, .int x2_2)]) [1, 0] rfl ?_)
    have h := h x2_2 ex2_2
    exact g_sub [0, 1] rfl h
  · have h := h.2 c_1
    refine g_aload_n dX10_text_84 rfl ?_
    refine g_gfR fl_10_40 rfl hr0 dX10_text_85 ?_
    refine g_iload_n dX10_text_88 rfl ?_
    refine g_iconst (0 : Int32) dX10_text_89 rfl ?_
    obtain ⟨j_3, hj_3, ej_3, h⟩ := h
    refine g_iast j_3 hr0 rfl hj_3 (by decide) ej_3 dX10_text_90 ?_
    obtain ⟨μ_4, eμ_4⟩ : ∃ z : gMem, z = gsI μ 716 r0 j_3 (0 : Int32) := ⟨_, rfl⟩
    have h := h μ_4 eμ_4
    refine g_mem eμ_4.symm ?_
    refine g_iinc dX10_text_91 rfl (by decide) (fun x2_5 ex2_5 => g_sub (lv' := [(0, .ref (D.2.2 10 r0)), (2, .int x2_5)]) [1, 0] rfl ?_)
    have h := h x2_5 ex2_5
    refine g_goto (tgt := 78) dX10_text_94 (by decide) ?_
    exact g_sub [0, 1] rfl h
set_option maxRecDepth 20000 in
set_option maxHeartbeats 4000000 in
theorem bl_X10_text_4 {l : Launch} {D : gD} {d : Nat} {q : Int32 → gMem → Prop} {Γ : gC} {r0 : Nat} {x2 : Int32} {μ : gMem} (hr0 : r0 < 1) (h : (((6 : Int32) ≤ x2) → ∀ μ_2 : gMem, μ_2 = gsI μ 10 r0 17 (0 : Int32) → ∀ μ_3 : gMem, μ_3 = gsI μ_2 10 r0 18 (0 : Int32) → ∀ μ_4 : gMem, μ_4 = gsI μ_3 10 r0 28 (0 : Int32) → ∀ μ_5 : gMem, μ_5 = gsI μ_4 10 r0 29 (0 : Int32) → ∃ (d_6 : Nat) (q_7 : gMem → Prop), d_6 < d ∧ Ctr l D d_6 yX10_token cX10_token 2 none [.ref (D.2.2 10 r0)] μ_5 (pV q_7) ∧ ∀ (μ_10 : gMem), q_7 μ_10 → pt_X10_text_5 l D d q Γ r0 μ_10) ∧ ((¬ (6 : Int32) ≤ x2) → ∃ j_13 : Nat, j_13 < 6 ∧ x2 = nI j_13 ∧ (∀ μ_14 : gMem, μ_14 = gsI μ 717 r0 j_13 (0 : Int32) → ∃ j_15 : Nat, j_15 < 6 ∧ x2 = nI j_15 ∧ (∀ μ_16 : gMem, μ_16 = gsI μ_14 718 r0 j_15 (0 : Int32) → ∀ x2_17 : Int32, x2_17 = x2 + (1 : Int32) → pt_X10_text_4 l D d q Γ r0 x2_17 μ_16)))) : pt_X10_text_4 l D d q Γ r0 x2 μ := by
  unfold pt_X10_text_4
  refine g_iload_n dX10_text_99 rfl ?_
  refine g_bipush (6 : Int32) dX10_text_100 rfl ?_
  refine g_icmp_ge (tgt := 125) dX10_text_102 (by decide) (fun c_1 => ?_) (fun c_1 => ?_)
  · have h := h.1 c_1
    refine g_aload_n dX10_text_125 rfl ?_
    refine g_iconst (0 : Int32) dX10_text_126 rfl ?_
    refine g_pfI fi_10_222 hr0 rfl rfl dX10_text_127 ?_
    obtain ⟨μ_2, eμ_2⟩ : ∃ z : gMem, z = gsI μ 10 r0 17 (0 : Int32) := ⟨_, rfl⟩
    have h := h μ_2 eμ_2
    refine g_mem eμ_2.symm ?_
    refine g_aload_n dX10_text_130 rfl ?_
    refine g_iconst (0 : Int32) dX10_text_131 rfl ?_
    refine g_pfI fi_10_246 hr0 rfl rfl dX10_text_132 ?_
    obtain ⟨μ_3, eμ_3⟩ : ∃ z : gMem, z = gsI μ_2 10 r0 18 (0 : Int32) := ⟨_, rfl⟩
    have h := h μ_3 eμ_3
    refine g_mem eμ_3.symm ?_
    refine g_aload_n dX10_text_135 rfl ?_
    refine g_iconst (0 : Int32) dX10_text_136 rfl ?_
    refine g_pfI fi_10_285 hr0 rfl rfl dX10_text_137 ?_
    obtain ⟨μ_4, eμ_4⟩ : ∃ z : gMem, z = gsI μ_3 10 r0 28 (0 : Int32) := ⟨_, rfl⟩
    have h := h μ_4 eμ_4
    refine g_mem eμ_4.symm ?_
    refine g_aload_n dX10_text_140 rfl ?_
    refine g_iconst (0 : Int32) dX10_text_141 rfl ?_
    refine g_pfI fi_10_258 hr0 rfl rfl dX10_text_142 ?_
    obtain ⟨μ_5, eμ_5⟩ : ∃ z : gMem, z = gsI μ_4 10 r0 29 (0 : Int32) := ⟨_, rfl⟩
    have h := h μ_5 eμ_5
    refine g_mem eμ_5.symm ?_
    refine g_aload_n dX10_text_145 rfl ?_
    obtain ⟨d_6, q_7, hd_8, hc_9, h⟩ := h
    refine g_cV ca_X10_205 ob_10 hc_9 hd_8 (by decide) hr0 rfl rfl (by first | exact Nat.le_of_ble_eq_true rfl | decide) dX10_text_146 (kV (fun μ_10 hq_12 => ?_))
    have h := h μ_10 hq_12
    exact g_sub [0] rfl h
  · have h := h.2 c_1
    refine g_aload_n dX10_text_105 rfl ?_
    refine g_gfR fl_10_43 rfl hr0 dX10_text_106 ?_
    refine g_iload_n dX10_text_109 rfl ?_
    refine g_iconst (0 : Int32) dX10_text_110 rfl ?_
    obtain ⟨j_13, hj_13, ej_13, h⟩ := h
    refine g_iast j_13 hr0 rfl hj_13 (by decide) ej_13 dX10_text_111 ?_
    obtain ⟨μ_14, eμ_14⟩ : ∃ z : gMem, z = gsI μ 717 r0 j_13 (0 : Int32) := ⟨_, rfl⟩
    have h := h μ_14 eμ_14
    refine g_mem eμ_14.symm ?_
    refine g_aload_n dX10_text_112 rfl ?_
    refine g_gfR fl_10_46 rfl hr0 dX10_text_113 ?_
    refine g_iload_n dX10_text_116 rfl ?_
    refine g_iconst (0 : Int32) dX10_text_117 rfl ?_
    obtain ⟨j_15, hj_15, ej_15, h⟩ := h
    refine g_iast j_15 hr0 rfl hj_15 (by decide) ej_15 dX10_text_118 ?_
    obtain ⟨μ_16, eμ_16⟩ : ∃ z : gMem, z = gsI μ_14 718 r0 j_15 (0 : Int32) := ⟨_, rfl⟩
    have h := h μ_16 eμ_16
    refine g_mem eμ_16.symm ?_
    refine g_iinc dX10_text_119 rfl (by decide) (fun x2_17 ex2_17 => g_sub (lv' := [(0, .ref (D.2.2 10 r0)), (2, .int x2_17)]) [1, 0] rfl ?_)
    have h := h x2_17 ex2_17
    refine g_goto (tgt := 99) dX10_text_122 (by decide) ?_
    exact g_sub [0, 1] rfl h
set_option maxRecDepth 20000 in
set_option maxHeartbeats 4000000 in
theorem bl_X10_text_5 {l : Launch} {D : gD} {d : Nat} {q : Int32 → gMem → Prop} {Γ : gC} {r0 : Nat} {μ : gMem} (hr0 : r0 < 1) (h : ((¬ (μ.1 10 r0 24) = 0) → pt_X10_text_6 l D d q Γ r0 μ) ∧ (((μ.1 10 r0 24) = 0) → (((μ.1 10 r0 22) = (4 : Int32)) → pt_X10_text_6 l D d q Γ r0 μ) ∧ ((¬ (μ.1 10 r0 22) = (4 : Int32)) → ∃ (d_3 : Nat) (q_4 : gMem → Prop), d_3 < d ∧ Ctr l D d_3 yX10_line cX10_line 4 none [.ref (D.2.2 10 r0)] μ (pV q_4) ∧ ∀ (μ_7 : gMem), q_4 μ_7 → pt_X10_text_5 l D d q Γ r0 μ_7))) : pt_X10_text_5 l D d q Γ r0 μ := by
  unfold pt_X10_text_5
  refine g_aload_n dX10_text_149 rfl ?_
  refine g_gfI fi_10_199 hr0 dX10_text_150 ?_
  refine g_if_ne (tgt := 171) dX10_text_153 (by decide) (fun c_1 => ?_) (fun c_1 => ?_)
  · have h := h.1 c_1
    exact g_sub [0] rfl h
  · have h := h.2 c_1
    refine g_aload_n dX10_text_156 rfl ?_
    refine g_gfI fi_10_164 hr0 dX10_text_157 ?_
    refine g_iconst (4 : Int32) dX10_text_160 rfl ?_
    refine g_icmp_eq (tgt := 171) dX10_text_161 (by decide) (fun c_2 => ?_) (fun c_2 => ?_)
    · have h := h.1 c_2
      exact g_sub [0] rfl h
    · have h := h.2 c_2
      refine g_aload_n dX10_text_164 rfl ?_
      obtain ⟨d_3, q_4, hd_5, hc_6, h⟩ := h
      refine g_cV ca_X10_288 ob_10 hc_6 hd_5 (by decide) hr0 rfl rfl (by first | exact Nat.le_of_ble_eq_true rfl | decide) dX10_text_165 (kV (fun μ_7 hq_9 => ?_))
      have h := h μ_7 hq_9
      refine g_goto (tgt := 149) dX10_text_168 (by decide) ?_
      exact g_sub [0] rfl h
set_option maxRecDepth 20000 in
set_option maxHeartbeats 4000000 in
theorem bl_X10_text_6 {l : Launch} {D : gD} {d : Nat} {q : Int32 → gMem → Prop} {Γ : gC} {r0 : Nat} {μ : gMem} (hr0 : r0 < 1) (h : ∀ μ_1 : gMem, μ_1 = gsI μ 10 r0 26 (μ.1 10 r0 24) → ∀ μ_2 : gMem, μ_2 = gsI μ_1 10 r0 27 (μ_1.1 10 r0 25) → (((μ_2.1 10 r0 24) = 0) → ∃ (d_4 : Nat) (q_5 : gMem → Prop), d_4 < d ∧ Ctr l D d_4 yX10_half cX10_half 3 none [.ref (D.2.2 707 r0)] μ_2 (pV q_5) ∧ ∀ (μ_8 : gMem), q_5 μ_8 → ∃ (d_11 : Nat) (q_12 : gMem → Prop), d_11 < d ∧ Ctr l D d_11 yX10_half cX10_half 3 none [.ref (D.2.2 708 r0)] μ_8 (pV q_12) ∧ ∀ (μ_15 : gMem), q_12 μ_15 → ∃ (d_18 : Nat) (q_19 : gMem → Prop), d_18 < d ∧ Ctr l D d_18 yX10_half cX10_half 3 none [.ref (D.2.2 709 r0)] μ_15 (pV q_19) ∧ ∀ (μ_22 : gMem), q_19 μ_22 → ∃ (d_25 : Nat) (q_26 : gMem → Prop), d_25 < d ∧ Ctr l D d_25 yX10_half cX10_half 3 none [.ref (D.2.2 710 r0)] μ_22 (pV q_26) ∧ ∀ (μ_29 : gMem), q_26 μ_29 → ∃ (d_32 : Nat) (q_33 : gMem → Prop), d_32 < d ∧ Ctr l D d_32 yX10_half cX10_half 3 none [.ref (D.2.2 711 r0)] μ_29 (pV q_33) ∧ ∀ (μ_36 : gMem), q_33 μ_36 → ∃ (d_39 : Nat) (q_40 : gMem → Prop), d_39 < d ∧ Ctr l D d_39 yX10_half cX10_half 3 none [.ref (D.2.2 712 r0)] μ_36 (pV q_40) ∧ ∀ (μ_43 : gMem), q_40 μ_43 → ∃ (d_46 : Nat) (q_47 : gMem → Prop), d_46 < d ∧ Ctr l D d_46 yX10_half cX10_half 3 none [.ref (D.2.2 713 r0)] μ_43 (pV q_47) ∧ ∀ (μ_50 : gMem), q_47 μ_50 → ∃ (d_53 : Nat) (q_54 : gMem → Prop), d_53 < d ∧ Ctr l D d_53 yX10_half cX10_half 3 none [.ref (D.2.2 714 r0)] μ_50 (pV q_54) ∧ ∀ (μ_57 : gMem), q_54 μ_57 → ∃ (d_60 : Nat) (q_61 : gMem → Prop), d_60 < d ∧ Ctr l D d_60 yX10_half cX10_half 3 none [.ref (D.2.2 715 r0)] μ_57 (pV q_61) ∧ ∀ (μ_64 : gMem), q_61 μ_64 → ∃ (d_67 : Nat) (q_68 : gMem → Prop), d_67 < d ∧ Ctr l D d_67 yX10_half cX10_half 3 none [.ref (D.2.2 716 r0)] μ_64 (pV q_68) ∧ ∀ (μ_71 : gMem), q_68 μ_71 → ∃ (d_74 : Nat) (q_75 : gMem → Prop), d_74 < d ∧ Ctr l D d_74 yX10_half cX10_half 3 none [.ref (D.2.2 717 r0)] μ_71 (pV q_75) ∧ ∀ (μ_78 : gMem), q_75 μ_78 → ∃ (d_81 : Nat) (q_82 : gMem → Prop), d_81 < d ∧ Ctr l D d_81 yX10_half cX10_half 3 none [.ref (D.2.2 718 r0)] μ_78 (pV q_82) ∧ ∀ (μ_85 : gMem), q_82 μ_85 → ∃ (d_88 : Nat) (q_89 : gMem → Prop), d_88 < d ∧ Ctr l D d_88 yX10_half cX10_half 3 none [.ref (D.2.2 719 r0)] μ_85 (pV q_89) ∧ ∀ (μ_92 : gMem), q_89 μ_92 → ∃ (d_95 : Nat) (q_96 : gMem → Prop), d_95 < d ∧ Ctr l D d_95 yX10_half cX10_half 3 none [.ref (D.2.2 720 r0)] μ_92 (pV q_96) ∧ ∀ (μ_99 : gMem), q_96 μ_99 → ∀ μ_102 : gMem, μ_102 = gsI μ_99 10 r0 55 (0 : Int32) → ∀ μ_103 : gMem, μ_103 = gsI μ_102 10 r0 56 (-1 : Int32) → ∀ μ_104 : gMem, μ_104 = gsI μ_103 10 r0 49 (0 : Int32) → ∀ μ_105 : gMem, μ_105 = gsI μ_104 10 r0 50 (0 : Int32) → ∃ (d_106 : Nat) (q_107 : gMem → Prop), d_106 < d ∧ Ctr l D d_106 yX10_begins cX10_begins 1 none [.ref (D.2.2 10 r0)] μ_105 (pV q_107) ∧ ∀ (μ_110 : gMem), q_107 μ_110 → q (μ_110.1 10 r0 18) μ_110) ∧ ((¬ (μ_2.1 10 r0 24) = 0) → q (-1 : Int32) μ_2)) : pt_X10_text_6 l D d q Γ r0 μ := by
  unfold pt_X10_text_6
  refine g_aload_n dX10_text_171 rfl ?_
  refine g_aload_n dX10_text_172 rfl ?_
  refine g_gfI fi_10_199 hr0 dX10_text_173 ?_
  refine g_pfI fi_10_291 hr0 rfl rfl dX10_text_176 ?_
  obtain ⟨μ_1, eμ_1⟩ : ∃ z : gMem, z = gsI μ 10 r0 26 (μ.1 10 r0 24) := ⟨_, rfl⟩
  have h := h μ_1 eμ_1
  refine g_mem eμ_1.symm ?_
  refine g_aload_n dX10_text_179 rfl ?_
  refine g_aload_n dX10_text_180 rfl ?_
  refine g_gfI fi_10_202 hr0 dX10_text_181 ?_
  refine g_pfI fi_10_55 hr0 rfl rfl dX10_text_184 ?_
  obtain ⟨μ_2, eμ_2⟩ : ∃ z : gMem, z = gsI μ_1 10 r0 27 (μ_1.1 10 r0 25) := ⟨_, rfl⟩
  have h := h μ_2 eμ_2
  refine g_mem eμ_2.symm ?_
  refine g_aload_n dX10_text_187 rfl ?_
  refine g_gfI fi_10_199 hr0 dX10_text_188 ?_
  refine g_if_eq (tgt := 196) dX10_text_191 (by decide) (fun c_3 => ?_) (fun c_3 => ?_)
  · have h := h.1 c_3
    refine g_aload_n dX10_text_196 rfl ?_
    refine g_gfR fl_10_13 rfl hr0 dX10_text_197 ?_
    obtain ⟨d_4, q_5, hd_6, hc_7, h⟩ := h
    refine g_callS ca_X10_294 hc_7 hd_6 (by decide) rfl rfl (by first | exact Nat.le_of_ble_eq_true rfl | decide) dX10_text_200 (kV (fun μ_8 hq_10 => ?_))
    have h := h μ_8 hq_10
    refine g_aload_n dX10_text_203 rfl ?_
    refine g_gfR fl_10_16 rfl hr0 dX10_text_204 ?_
    obtain ⟨d_11, q_12, hd_13, hc_14, h⟩ := h
    refine g_callS ca_X10_294 hc_14 hd_13 (by decide) rfl rfl (by first | exact Nat.le_of_ble_eq_true rfl | decide) dX10_text_207 (kV (fun μ_15 hq_17 => ?_))
    have h := h μ_15 hq_17
    refine g_aload_n dX10_text_210 rfl ?_
    refine g_gfR fl_10_19 rfl hr0 dX10_text_211 ?_
    obtain ⟨d_18, q_19, hd_20, hc_21, h⟩ := h
    refine g_callS ca_X10_294 hc_21 hd_20 (by decide) rfl rfl (by first | exact Nat.le_of_ble_eq_true rfl | decide) dX10_text_214 (kV (fun μ_22 hq_24 => ?_))
    have h := h μ_22 hq_24
    refine g_aload_n dX10_text_217 rfl ?_
    refine g_gfR fl_10_22 rfl hr0 dX10_text_218 ?_
    obtain ⟨d_25, q_26, hd_27, hc_28, h⟩ := h
    refine g_callS ca_X10_294 hc_28 hd_27 (by decide) rfl rfl (by first | exact Nat.le_of_ble_eq_true rfl | decide) dX10_text_221 (kV (fun μ_29 hq_31 => ?_))
    have h := h μ_29 hq_31
    refine g_aload_n dX10_text_224 rfl ?_
    refine g_gfR fl_10_25 rfl hr0 dX10_text_225 ?_
    obtain ⟨d_32, q_33, hd_34, hc_35, h⟩ := h
    refine g_callS ca_X10_294 hc_35 hd_34 (by decide) rfl rfl (by first | exact Nat.le_of_ble_eq_true rfl | decide) dX10_text_228 (kV (fun μ_36 hq_38 => ?_))
    have h := h μ_36 hq_38
    refine g_aload_n dX10_text_231 rfl ?_
    refine g_gfR fl_10_28 rfl hr0 dX10_text_232 ?_
    obtain ⟨d_39, q_40, hd_41, hc_42, h⟩ := h
    refine g_callS ca_X10_294 hc_42 hd_41 (by decide) rfl rfl (by first | exact Nat.le_of_ble_eq_true rfl | decide) dX10_text_235 (kV (fun μ_43 hq_45 => ?_))
    have h := h μ_43 hq_45
    refine g_aload_n dX10_text_238 rfl ?_
    refine g_gfR fl_10_31 rfl hr0 dX10_text_239 ?_
    obtain ⟨d_46, q_47, hd_48, hc_49, h⟩ := h
    refine g_callS ca_X10_294 hc_49 hd_48 (by decide) rfl rfl (by first | exact Nat.le_of_ble_eq_true rfl | decide) dX10_text_242 (kV (fun μ_50 hq_52 => ?_))
    have h := h μ_50 hq_52
    refine g_aload_n dX10_text_245 rfl ?_
    refine g_gfR fl_10_34 rfl hr0 dX10_text_246 ?_
    obtain ⟨d_53, q_54, hd_55, hc_56, h⟩ := h
    refine g_callS ca_X10_294 hc_56 hd_55 (by decide) rfl rfl (by first | exact Nat.le_of_ble_eq_true rfl | decide) dX10_text_249 (kV (fun μ_57 hq_59 => ?_))
    have h := h μ_57 hq_59
    refine g_aload_n dX10_text_252 rfl ?_
    refine g_gfR fl_10_37 rfl hr0 dX10_text_253 ?_
    obtain ⟨d_60, q_61, hd_62, hc_63, h⟩ := h
    refine g_callS ca_X10_294 hc_63 hd_62 (by decide) rfl rfl (by first | exact Nat.le_of_ble_eq_true rfl | decide) dX10_text_256 (kV (fun μ_64 hq_66 => ?_))
    have h := h μ_64 hq_66
    refine g_aload_n dX10_text_259 rfl ?_
    refine g_gfR fl_10_40 rfl hr0 dX10_text_260 ?_
    obtain ⟨d_67, q_68, hd_69, hc_70, h⟩ := h
    refine g_callS ca_X10_294 hc_70 hd_69 (by decide) rfl rfl (by first | exact Nat.le_of_ble_eq_true rfl | decide) dX10_text_263 (kV (fun μ_71 hq_73 => ?_))
    have h := h μ_71 hq_73
    refine g_aload_n dX10_text_266 rfl ?_
    refine g_gfR fl_10_43 rfl hr0 dX10_text_267 ?_
    obtain ⟨d_74, q_75, hd_76, hc_77, h⟩ := h
    refine g_callS ca_X10_294 hc_77 hd_76 (by decide) rfl rfl (by first | exact Nat.le_of_ble_eq_true rfl | decide) dX10_text_270 (kV (fun μ_78 hq_80 => ?_))
    have h := h μ_78 hq_80
    refine g_aload_n dX10_text_273 rfl ?_
    refine g_gfR fl_10_46 rfl hr0 dX10_text_274 ?_
    obtain ⟨d_81, q_82, hd_83, hc_84, h⟩ := h
    refine g_callS ca_X10_294 hc_84 hd_83 (by decide) rfl rfl (by first | exact Nat.le_of_ble_eq_true rfl | decide) dX10_text_277 (kV (fun μ_85 hq_87 => ?_))
    have h := h μ_85 hq_87
    refine g_aload_n dX10_text_280 rfl ?_
    refine g_gfR fl_10_49 rfl hr0 dX10_text_281 ?_
    obtain ⟨d_88, q_89, hd_90, hc_91, h⟩ := h
    refine g_callS ca_X10_294 hc_91 hd_90 (by decide) rfl rfl (by first | exact Nat.le_of_ble_eq_true rfl | decide) dX10_text_284 (kV (fun μ_92 hq_94 => ?_))
    have h := h μ_92 hq_94
    refine g_aload_n dX10_text_287 rfl ?_
    refine g_gfR fl_10_52 rfl hr0 dX10_text_288 ?_
    obtain ⟨d_95, q_96, hd_97, hc_98, h⟩ := h
    refine g_callS ca_X10_294 hc_98 hd_97 (by decide) rfl rfl (by first | exact Nat.le_of_ble_eq_true rfl | decide) dX10_text_291 (kV (fun μ_99 hq_101 => ?_))
    have h := h μ_99 hq_101
    refine g_aload_n dX10_text_294 rfl ?_
    refine g_iconst (0 : Int32) dX10_text_295 rfl ?_
    refine g_pfI fi_10_298 hr0 rfl rfl dX10_text_296 ?_
    obtain ⟨μ_102, eμ_102⟩ : ∃ z : gMem, z = gsI μ_99 10 r0 55 (0 : Int32) := ⟨_, rfl⟩
    have h := h μ_102 eμ_102
    refine g_mem eμ_102.symm ?_
    refine g_aload_n dX10_text_299 rfl ?_
    refine g_iconst (-1 : Int32) dX10_text_300 rfl ?_
    refine g_pfI fi_10_120 hr0 rfl rfl dX10_text_301 ?_
    obtain ⟨μ_103, eμ_103⟩ : ∃ z : gMem, z = gsI μ_102 10 r0 56 (-1 : Int32) := ⟨_, rfl⟩
    have h := h μ_103 eμ_103
    refine g_mem eμ_103.symm ?_
    refine g_aload_n dX10_text_304 rfl ?_
    refine g_iconst (0 : Int32) dX10_text_305 rfl ?_
    refine g_pfI fi_10_301 hr0 rfl rfl dX10_text_306 ?_
    obtain ⟨μ_104, eμ_104⟩ : ∃ z : gMem, z = gsI μ_103 10 r0 49 (0 : Int32) := ⟨_, rfl⟩
    have h := h μ_104 eμ_104
    refine g_mem eμ_104.symm ?_
    refine g_aload_n dX10_text_309 rfl ?_
    refine g_iconst (0 : Int32) dX10_text_310 rfl ?_
    refine g_pfI fi_10_305 hr0 rfl rfl dX10_text_311 ?_
    obtain ⟨μ_105, eμ_105⟩ : ∃ z : gMem, z = gsI μ_104 10 r0 50 (0 : Int32) := ⟨_, rfl⟩
    have h := h μ_105 eμ_105
    refine g_mem eμ_105.symm ?_
    refine g_aload_n dX10_text_314 rfl ?_
    obtain ⟨d_106, q_107, hd_108, hc_109, h⟩ := h
    refine g_cV ca_X10_142 ob_10 hc_109 hd_108 (by decide) hr0 rfl rfl (by first | exact Nat.le_of_ble_eq_true rfl | decide) dX10_text_315 (kV (fun μ_110 hq_112 => ?_))
    have h := h μ_110 hq_112
    refine g_aload_n dX10_text_318 rfl ?_
    refine g_gfI fi_10_246 hr0 dX10_text_319 ?_
    exact g_iret dX10_text_322 rfl rfl ⟨_, rfl, h⟩
  · have h := h.2 c_3
    refine g_iconst (-1 : Int32) dX10_text_194 rfl ?_
    exact g_iret dX10_text_195 rfl rfl ⟨_, rfl, h⟩
theorem en_X10_text {l : Launch} {D : gD} {d : Nat} {q : Int32 → gMem → Prop} {r0 : Nat} {x1 : Int32} {μ : gMem} (h : ∀ Γ : gC, pt_X10_text_0 l D d q Γ r0 x1 μ) : Ctr l D d yX10_text cX10_text 3 (some .int) [.ref (D.2.2 10 r0), .int x1] μ (pI q) :=
  Ctr_of rfl (by decide) (Nat.le_of_ble_eq_true rfl) (fun Γ => g_sub [0, 1] rfl (h Γ))
def pt_X10_fault_0 (l : Launch) (D : gD) (d : Nat) (q : Int32 → gMem → Prop) (Γ : gC) (r0 : Nat) (x1 : Int32) (μ : gMem) : Prop := G l D RX10 cX10_fault 2 (some .int) d (pI q) Γ 0 [(0, .ref (D.2.2 10 r0)), (1, .int x1)] [] μ
set_option maxRecDepth 20000 in
set_option maxHeartbeats 4000000 in
theorem bl_X10_fault_0 {l : Launch} {D : gD} {d : Nat} {q : Int32 → gMem → Prop} {Γ : gC} {r0 : Nat} {x1 : Int32} {μ : gMem} (hr0 : r0 < 1) (h : ∀ μ_1 : gMem, μ_1 = gsI μ 10 r0 0 (0 : Int32) → ((¬ x1 = 0) → ((¬ x1 = (1 : Int32)) → q (-1 : Int32) μ_1) ∧ ((x1 = (1 : Int32)) → q (μ_1.1 10 r0 27) μ_1)) ∧ ((x1 = 0) → q (μ_1.1 10 r0 26) μ_1)) : pt_X10_fault_0 l D d q Γ r0 x1 μ := by
  unfold pt_X10_fault_0
  refine g_aload_n dX10_fault_0 rfl ?_
  refine g_iconst (0 : Int32) dX10_fault_1 rfl ?_
  refine g_pfI fi_10_145 hr0 rfl rfl dX10_fault_2 ?_
  obtain ⟨μ_1, eμ_1⟩ : ∃ z : gMem, z = gsI μ 10 r0 0 (0 : Int32) := ⟨_, rfl⟩
  have h := h μ_1 eμ_1
  refine g_mem eμ_1.symm ?_
  refine g_iload_n dX10_fault_5 rfl ?_
  refine g_if_ne (tgt := 16) dX10_fault_6 (by decide) (fun c_2 => ?_) (fun c_2 => ?_)
  · have h := h.1 c_2
    refine g_iload_n dX10_fault_16 rfl ?_
    refine g_iconst (1 : Int32) dX10_fault_17 rfl ?_
    refine g_icmp_ne (tgt := 28) dX10_fault_18 (by decide) (fun c_3 => ?_) (fun c_3 => ?_)
    · have h := h.1 c_3
      refine g_iconst (-1 : Int32) dX10_fault_28 rfl ?_
      exact g_iret dX10_fault_29 rfl rfl ⟨_, rfl, h⟩
    · have h := h.2 c_3
      refine g_aload_n dX10_fault_21 rfl ?_
      refine g_gfI fi_10_55 hr0 dX10_fault_22 ?_
      refine g_goto (tgt := 29) dX10_fault_25 (by decide) ?_
      exact g_iret dX10_fault_29 rfl rfl ⟨_, rfl, h⟩
  · have h := h.2 c_2
    refine g_aload_n dX10_fault_9 rfl ?_
    refine g_gfI fi_10_291 hr0 dX10_fault_10 ?_
    refine g_goto (tgt := 29) dX10_fault_13 (by decide) ?_
    exact g_iret dX10_fault_29 rfl rfl ⟨_, rfl, h⟩
theorem en_X10_fault {l : Launch} {D : gD} {d : Nat} {q : Int32 → gMem → Prop} {r0 : Nat} {x1 : Int32} {μ : gMem} (h : ∀ Γ : gC, pt_X10_fault_0 l D d q Γ r0 x1 μ) : Ctr l D d yX10_fault cX10_fault 2 (some .int) [.ref (D.2.2 10 r0), .int x1] μ (pI q) :=
  Ctr_of rfl (by decide) (Nat.le_of_ble_eq_true rfl) (fun Γ => g_sub [0, 1] rfl (h Γ))
def pt_X10_named_0 (l : Launch) (D : gD) (d : Nat) (q : Int32 → gMem → Prop) (Γ : gC) (r0 : Nat) (x1 : Int32) (x2 : Int32) (μ : gMem) : Prop := G l D RX10 cX10_named 3 (some .int) d (pI q) Γ 0 [(0, .ref (D.2.2 10 r0)), (1, .int x1), (2, .int x2)] [] μ
set_option maxRecDepth 20000 in
set_option maxHeartbeats 4000000 in
theorem bl_X10_named_0 {l : Launch} {D : gD} {d : Nat} {q : Int32 → gMem → Prop} {Γ : gC} {r0 : Nat} {x1 : Int32} {x2 : Int32} {μ : gMem} (hr0 : r0 < 1) (h : ∀ μ_1 : gMem, μ_1 = gsI μ 10 r0 0 (0 : Int32) → (x1 = (0 : Int32) → ∃ (d_4 : Nat) (q_5 : Int32 → gMem → Prop), d_4 < d ∧ Ctr l D d_4 yX10_found cX10_found 5 (some .int) [.ref (D.2.2 708 r0), .int (0 : Int32), .int (μ_1.1 707 r0 0), .int x2] μ_1 (pI q_5) ∧ ∀ (v_9 : Int32) (μ_8 : gMem), q_5 v_9 μ_8 → q v_9 μ_8) ∧ (x1 = (1 : Int32) → ∃ (d_12 : Nat) (q_13 : Int32 → gMem → Prop), d_12 < d ∧ Ctr l D d_12 yX10_found cX10_found 5 (some .int) [.ref (D.2.2 712 r0), .int (0 : Int32), .int (μ_1.1 707 r0 1), .int x2] μ_1 (pI q_13) ∧ ∀ (v_17 : Int32) (μ_16 : gMem), q_13 v_17 μ_16 → q v_17 μ_16) ∧ ((¬ x1 = (0 : Int32) ∧ ¬ x1 = (1 : Int32)) → q (-1 : Int32) μ_1)) : pt_X10_named_0 l D d q Γ r0 x1 x2 μ := by
  unfold pt_X10_named_0
  refine g_aload_n dX10_named_0 rfl ?_
  refine g_iconst (0 : Int32) dX10_named_1 rfl ?_
  refine g_pfI fi_10_145 hr0 rfl rfl dX10_named_2 ?_
  obtain ⟨μ_1, eμ_1⟩ : ∃ z : gMem, z = gsI μ 10 r0 0 (0 : Int32) := ⟨_, rfl⟩
  have h := h μ_1 eμ_1
  refine g_mem eμ_1.symm ?_
  refine g_iload_n dX10_named_5 rfl ?_
  by_cases c_2_0 : x1 = (0 : Int32)
  · refine g_lookup (off := 26) (tgt := 32) dX10_named_6 (by decide) (by rw [c_2_0]; decide) (by decide) ?_
    have h := h.1 c_2_0
    refine g_aload_n dX10_named_32 rfl ?_
    refine g_gfR fl_10_16 rfl hr0 dX10_named_33 ?_
    refine g_iconst (0 : Int32) dX10_named_36 rfl ?_
    refine g_aload_n dX10_named_37 rfl ?_
    refine g_gfR fl_10_13 rfl hr0 dX10_named_38 ?_
    refine g_iconst (0 : Int32) dX10_named_41 rfl ?_
    refine g_iald 0 hr0 rfl (by decide) (by decide) rfl dX10_named_42 ?_
    refine g_iload_n dX10_named_43 rfl ?_
    obtain ⟨d_4, q_5, hd_6, hc_7, h⟩ := h
    refine g_callS ca_X10_211 hc_7 hd_6 (by decide) rfl rfl (by first | exact Nat.le_of_ble_eq_true rfl | decide) dX10_named_44 (kI (fun v_9 μ_8 hq_10 => ?_))
    have h := h v_9 μ_8 hq_10
    exact g_iret dX10_named_47 rfl rfl ⟨_, rfl, h⟩
  by_cases c_2_1 : x1 = (1 : Int32)
  · refine g_lookup (off := 42) (tgt := 48) dX10_named_6 (by decide) (by rw [c_2_1]; decide) (by decide) ?_
    have h := h.2.1 c_2_1
    refine g_aload_n dX10_named_48 rfl ?_
    refine g_gfR fl_10_28 rfl hr0 dX10_named_49 ?_
    refine g_iconst (0 : Int32) dX10_named_52 rfl ?_
    refine g_aload_n dX10_named_53 rfl ?_
    refine g_gfR fl_10_13 rfl hr0 dX10_named_54 ?_
    refine g_iconst (1 : Int32) dX10_named_57 rfl ?_
    refine g_iald 1 hr0 rfl (by decide) (by decide) rfl dX10_named_58 ?_
    refine g_iload_n dX10_named_59 rfl ?_
    obtain ⟨d_12, q_13, hd_14, hc_15, h⟩ := h
    refine g_callS ca_X10_211 hc_15 hd_14 (by decide) rfl rfl (by first | exact Nat.le_of_ble_eq_true rfl | decide) dX10_named_60 (kI (fun v_17 μ_16 hq_18 => ?_))
    have h := h v_17 μ_16 hq_18
    exact g_iret dX10_named_63 rfl rfl ⟨_, rfl, h⟩
  have c_2_o : Op.lookupswitch.offset [(0, 26), (1, 42)] (58) (x1).toInt = (58) := by
    rw [lv_osw (a := 0) c_2_0 (by decide)]
    rw [lv_osw (a := 1) c_2_1 (by decide)]
    rfl
  refine g_lookup (tgt := 64) dX10_named_6 (by decide) c_2_o (by decide) ?_
  have h := h.2.2 ⟨c_2_0, c_2_1⟩
  refine g_iconst (-1 : Int32) dX10_named_64 rfl ?_
  exact g_iret dX10_named_65 rfl rfl ⟨_, rfl, h⟩
theorem en_X10_named {l : Launch} {D : gD} {d : Nat} {q : Int32 → gMem → Prop} {r0 : Nat} {x1 : Int32} {x2 : Int32} {μ : gMem} (h : ∀ Γ : gC, pt_X10_named_0 l D d q Γ r0 x1 x2 μ) : Ctr l D d yX10_named cX10_named 3 (some .int) [.ref (D.2.2 10 r0), .int x1, .int x2] μ (pI q) :=
  Ctr_of rfl (by decide) (Nat.le_of_ble_eq_true rfl) (fun Γ => g_sub [0, 1, 2] rfl (h Γ))
def pt_X10_works_0 (l : Launch) (D : gD) (d : Nat) (q : Int32 → gMem → Prop) (Γ : gC) (r0 : Nat) (x1 : Int32) (μ : gMem) : Prop := G l D RX10 cX10_works 8 (some .boolean) d (pI q) Γ 0 [(0, .ref (D.2.2 10 r0)), (1, .int x1)] [] μ
def pt_X10_works_1 (l : Launch) (D : gD) (d : Nat) (q : Int32 → gMem → Prop) (Γ : gC) (rs0 : Nat) (xs1 : Int32) (xs2 : Int32) (μ : gMem) : Prop := G l D RX10 cX10_works 8 (some .boolean) d (pI q) Γ 40 [] [.int xs2, .int xs1, .ref (D.2.2 735 rs0)] μ
def pt_X10_works_2 (l : Launch) (D : gD) (d : Nat) (q : Int32 → gMem → Prop) (Γ : gC) (r0 : Nat) (l2 : Int64) (l4 : Int64) (μ : gMem) : Prop := G l D RX10 cX10_works 8 (some .boolean) d (pI q) Γ 212 [(0, .ref (D.2.2 10 r0)), (2, .long l2), (4, .long l4)] [] μ
def pt_X10_works_3 (l : Launch) (D : gD) (d : Nat) (q : Int32 → gMem → Prop) (Γ : gC) (r0 : Nat) (xs0 : Int32) (μ : gMem) : Prop := G l D RX10 cX10_works 8 (some .boolean) d (pI q) Γ 250 [(0, .ref (D.2.2 10 r0))] [.int xs0] μ
def pt_X10_works_4 (l : Launch) (D : gD) (d : Nat) (q : Int32 → gMem → Prop) (Γ : gC) (r0 : Nat) (xs0 : Int32) (μ : gMem) : Prop := G l D RX10 cX10_works 8 (some .boolean) d (pI q) Γ 270 [(0, .ref (D.2.2 10 r0))] [.int xs0] μ
def pt_X10_works_5 (l : Launch) (D : gD) (d : Nat) (q : Int32 → gMem → Prop) (Γ : gC) (r0 : Nat) (xs0 : Int32) (μ : gMem) : Prop := G l D RX10 cX10_works 8 (some .boolean) d (pI q) Γ 290 [(0, .ref (D.2.2 10 r0))] [.int xs0] μ
def pt_X10_works_6 (l : Launch) (D : gD) (d : Nat) (q : Int32 → gMem → Prop) (Γ : gC) (r0 : Nat) (xs0 : Int32) (μ : gMem) : Prop := G l D RX10 cX10_works 8 (some .boolean) d (pI q) Γ 310 [(0, .ref (D.2.2 10 r0))] [.int xs0] μ
def pt_X10_works_7 (l : Launch) (D : gD) (d : Nat) (q : Int32 → gMem → Prop) (Γ : gC) (r0 : Nat) (xs0 : Int32) (μ : gMem) : Prop := G l D RX10 cX10_works 8 (some .boolean) d (pI q) Γ 330 [(0, .ref (D.2.2 10 r0))] [.int xs0] μ
def pt_X10_works_8 (l : Launch) (D : gD) (d : Nat) (q : Int32 → gMem → Prop) (Γ : gC) (r0 : Nat) (xs0 : Int32) (μ : gMem) : Prop := G l D RX10 cX10_works 8 (some .boolean) d (pI q) Γ 350 [(0, .ref (D.2.2 10 r0))] [.int xs0] μ
def pt_X10_works_9 (l : Launch) (D : gD) (d : Nat) (q : Int32 → gMem → Prop) (Γ : gC) (r0 : Nat) (μ : gMem) : Prop := G l D RX10 cX10_works 8 (some .boolean) d (pI q) Γ 375 [(0, .ref (D.2.2 10 r0))] [] μ
def pt_X10_works_10 (l : Launch) (D : gD) (d : Nat) (q : Int32 → gMem → Prop) (Γ : gC) (r0 : Nat) (xs0 : Int32) (μ : gMem) : Prop := G l D RX10 cX10_works 8 (some .boolean) d (pI q) Γ 376 [(0, .ref (D.2.2 10 r0))] [.int xs0] μ
def pt_X10_works_11 (l : Launch) (D : gD) (d : Nat) (q : Int32 → gMem → Prop) (Γ : gC) (r0 : Nat) (μ : gMem) : Prop := G l D RX10 cX10_works 8 (some .boolean) d (pI q) Γ 397 [(0, .ref (D.2.2 10 r0))] [] μ
def pt_X10_works_12 (l : Launch) (D : gD) (d : Nat) (q : Int32 → gMem → Prop) (Γ : gC) (r0 : Nat) (xs0 : Int32) (μ : gMem) : Prop := G l D RX10 cX10_works 8 (some .boolean) d (pI q) Γ 402 [(0, .ref (D.2.2 10 r0))] [.int xs0] μ
def pt_X10_works_13 (l : Launch) (D : gD) (d : Nat) (q : Int32 → gMem → Prop) (Γ : gC) (r0 : Nat) (l6 : Int64) (μ : gMem) : Prop := G l D RX10 cX10_works 8 (some .boolean) d (pI q) Γ 407 [(0, .ref (D.2.2 10 r0)), (6, .long l6)] [] μ
set_option maxRecDepth 20000 in
set_option maxHeartbeats 4000000 in
theorem bl_X10_works_0 {l : Launch} {D : gD} {d : Nat} {q : Int32 → gMem → Prop} {Γ : gC} {r0 : Nat} {x1 : Int32} {μ : gMem} (hr0 : r0 < 1) (h : ∃ j_1 : Nat, j_1 < 64 ∧ (μ.1 10 r0 32) - (1 : Int32) = nI j_1 ∧ (∀ l2_2 : Int64, l2_2 = μ.2.1 735 r0 j_1 → ((¬ x1 = (260 : Int32)) → ∃ j_4 : Nat, j_4 < 64 ∧ (μ.1 10 r0 32) - (2 : Int32) = nI j_4 ∧ (∀ l4_5 : Int64, l4_5 = μ.2.1 735 r0 j_4 → ∀ μ_6 : gMem, μ_6 = gsI μ 10 r0 32 ((μ.1 10 r0 32) - (1 : Int32)) → (x1 = (42 : Int32) → (((lg_cmp l4_5 (0 : Int64)) = 0) → pt_X10_works_2 l D d q Γ r0 l2_2 l4_5 μ_6) ∧ ((¬ (lg_cmp l4_5 (0 : Int64)) = 0) → (0 < d) ∧ ((0 < d) ∧ ((¬ jabs l4_5 = 0) ∧ ((((lg_cmp (jabs l2_2) ((1000000000000 : Int64) / (jabs l4_5))) ≤ 0) → pt_X10_works_2 l D d q Γ r0 l2_2 l4_5 μ_6) ∧ ((¬ (lg_cmp (jabs l2_2) ((1000000000000 : Int64) / (jabs l4_5))) ≤ 0) → q (0 : Int32) μ_6)))))) ∧ (x1 = (43 : Int32) → ∀ l6_15 : Int64, l6_15 = l4_5 + l2_2 → pt_X10_works_13 l D d q Γ r0 l6_15 μ_6) ∧ (x1 = (45 : Int32) → ∀ l6_16 : Int64, l6_16 = l4_5 - l2_2 → pt_X10_works_13 l D d q Γ r0 l6_16 μ_6) ∧ (x1 = (47 : Int32) → ((¬ (lg_cmp l2_2 (0 : Int64)) = 0) → (¬ l2_2 = 0) ∧ (∀ l6_19 : Int64, l6_19 = l4_5 / l2_2 → pt_X10_works_13 l D d q Γ r0 l6_19 μ_6)) ∧ (((lg_cmp l2_2 (0 : Int64)) = 0) → q (0 : Int32) μ_6)) ∧ (x1 = (60 : Int32) → ((0 ≤ (lg_cmp l4_5 l2_2)) → pt_X10_works_3 l D d q Γ r0 (0 : Int32) μ_6) ∧ ((¬ 0 ≤ (lg_cmp l4_5 l2_2)) → pt_X10_works_3 l D d q Γ r0 (1 : Int32) μ_6)) ∧ (x1 = (61 : Int32) → ((¬ (lg_cmp l4_5 l2_2) = 0) → pt_X10_works_5 l D d q Γ r0 (0 : Int32) μ_6) ∧ (((lg_cmp l4_5 l2_2) = 0) → pt_X10_works_5 l D d q Γ r0 (1 : Int32) μ_6)) ∧ (x1 = (62 : Int32) → (((lg_cmp l4_5 l2_2) ≤ 0) → pt_X10_works_4 l D d q Γ r0 (0 : Int32) μ_6) ∧ ((¬ (lg_cmp l4_5 l2_2) ≤ 0) → pt_X10_works_4 l D d q Γ r0 (1 : Int32) μ_6)) ∧ (x1 = (256 : Int32) → ((0 < (lg_cmp l4_5 l2_2)) → pt_X10_works_6 l D d q Γ r0 (0 : Int32) μ_6) ∧ ((¬ 0 < (lg_cmp l4_5 l2_2)) → pt_X10_works_6 l D d q Γ r0 (1 : Int32) μ_6)) ∧ (x1 = (257 : Int32) → (((lg_cmp l4_5 l2_2) = 0) → pt_X10_works_8 l D d q Γ r0 (0 : Int32) μ_6) ∧ ((¬ (lg_cmp l4_5 l2_2) = 0) → pt_X10_works_8 l D d q Γ r0 (1 : Int32) μ_6)) ∧ (x1 = (258 : Int32) → (((lg_cmp l4_5 l2_2) < 0) → pt_X10_works_7 l D d q Γ r0 (0 : Int32) μ_6) ∧ ((¬ (lg_cmp l4_5 l2_2) < 0) → pt_X10_works_7 l D d q Γ r0 (1 : Int32) μ_6)) ∧ (x1 = (261 : Int32) → (((lg_cmp l4_5 (0 : Int64)) = 0) → pt_X10_works_9 l D d q Γ r0 μ_6) ∧ ((¬ (lg_cmp l4_5 (0 : Int64)) = 0) → (((lg_cmp l2_2 (0 : Int64)) = 0) → pt_X10_works_9 l D d q Γ r0 μ_6) ∧ ((¬ (lg_cmp l2_2 (0 : Int64)) = 0) → pt_X10_works_10 l D d q Γ r0 (1 : Int32) μ_6))) ∧ ((¬ x1 = (42 : Int32) ∧ ¬ x1 = (43 : Int32) ∧ ¬ x1 = (45 : Int32) ∧ ¬ x1 = (47 : Int32) ∧ ¬ x1 = (60 : Int32) ∧ ¬ x1 = (61 : Int32) ∧ ¬ x1 = (62 : Int32) ∧ ¬ x1 = (256 : Int32) ∧ ¬ x1 = (257 : Int32) ∧ ¬ x1 = (258 : Int32) ∧ ¬ x1 = (261 : Int32)) → ((¬ (lg_cmp l4_5 (0 : Int64)) = 0) → pt_X10_works_11 l D d q Γ r0 μ_6) ∧ (((lg_cmp l4_5 (0 : Int64)) = 0) → (((lg_cmp l2_2 (0 : Int64)) = 0) → pt_X10_works_12 l D d q Γ r0 (0 : Int32) μ_6) ∧ ((¬ (lg_cmp l2_2 (0 : Int64)) = 0) → pt_X10_works_11 l D d q Γ r0 μ_6))))) ∧ ((x1 = (260 : Int32)) → ((¬ (lg_cmp l2_2 (0 : Int64)) = 0) → pt_X10_works_1 l D d q Γ r0 ((μ.1 10 r0 32) - (1 : Int32)) (0 : Int32) μ) ∧ (((lg_cmp l2_2 (0 : Int64)) = 0) → pt_X10_works_1 l D d q Γ r0 ((μ.1 10 r0 32) - (1 : Int32)) (1 : Int32) μ)))) : pt_X10_works_0 l D d q Γ r0 x1 μ := by
  unfold pt_X10_works_0
  refine g_aload_n dX10_works_0 rfl ?_
  refine g_gfR fl_10_63 rfl hr0 dX10_works_1 ?_
  refine g_aload_n dX10_works_4 rfl ?_
  refine g_gfI fi_10_308 hr0 dX10_works_5 ?_
  refine g_iconst (1 : Int32) dX10_works_8 rfl ?_
  refine g_isub dX10_works_9 ?_
  obtain ⟨j_1, hj_1, ej_1, h⟩ := h
  refine g_lald j_1 hr0 rfl hj_1 (by decide) ej_1 dX10_works_10 ?_
  refine g_lstore_n dX10_works_11 (by decide) (fun l2_2 el2_2 => g_sub (lv' := [(0, .ref (D.2.2 10 r0)), (1, .int x1), (2, .long l2_2)]) [1, 2, 0] rfl ?_)
  have h := h l2_2 el2_2
  refine g_iload_n dX10_works_12 rfl ?_
  refine g_sipush (260 : Int32) dX10_works_13 rfl ?_
  refine g_icmp_ne (tgt := 46) dX10_works_16 (by decide) (fun c_3 => ?_) (fun c_3 => ?_)
  · have h := h.1 c_3
    refine g_aload_n dX10_works_46 rfl ?_
    refine g_gfR fl_10_63 rfl hr0 dX10_works_47 ?_
    refine g_aload_n dX10_works_50 rfl ?_
    refine g_gfI fi_10_308 hr0 dX10_works_51 ?_
    refine g_iconst (2 : Int32) dX10_works_54 rfl ?_
    refine g_isub dX10_works_55 ?_
    obtain ⟨j_4, hj_4, ej_4, h⟩ := h
    refine g_lald j_4 hr0 rfl hj_4 (by decide) ej_4 dX10_works_56 ?_
    refine g_lstore dX10_works_57 (by decide) (fun l4_5 el4_5 => g_sub (lv' := [(0, .ref (D.2.2 10 r0)), (1, .int x1), (2, .long l2_2), (4, .long l4_5)]) [1, 2, 3, 0] rfl ?_)
    have h := h l4_5 el4_5
    refine g_aload_n dX10_works_59 rfl ?_
    refine g_dup dX10_works_60 rfl ?_
    refine g_gfI fi_10_308 hr0 dX10_works_61 ?_
    refine g_iconst (1 : Int32) dX10_works_64 rfl ?_
    refine g_isub dX10_works_65 ?_
    refine g_pfI fi_10_308 hr0 rfl rfl dX10_works_66 ?_
    obtain ⟨μ_6, eμ_6⟩ : ∃ z : gMem, z = gsI μ 10 r0 32 ((μ.1 10 r0 32) - (1 : Int32)) := ⟨_, rfl⟩
    have h := h μ_6 eμ_6
    refine g_mem eμ_6.symm ?_
    refine g_iload_n dX10_works_69 rfl ?_
    by_cases c_7_0 : x1 = (42 : Int32)
    · refine g_lookup (off := 116) (tgt := 186) dX10_works_70 (by decide) (by rw [c_7_0]; decide) (by decide) ?_
      have h := h.1 c_7_0
      refine g_lload dX10_works_186 rfl ?_
      refine g_lconst (0 : Int64) dX10_works_188 rfl ?_
      refine g_lcmp dX10_works_189 ?_
      refine g_if_eq (tgt := 212) dX10_works_190 (by decide) (fun c_10 => ?_) (fun c_10 => ?_)
      · have h := h.1 c_10
        exact g_sub [0, 2, 3] rfl h
      · have h := h.2 c_10
        refine g_lload_n dX10_works_193 rfl ?_
        obtain ⟨hd_11, h⟩ := h
        refine g_mabs_long hd_11 mk_X10_315 (by first | exact Nat.le_of_ble_eq_true rfl | decide) dX10_works_194 ?_
        refine g_ldc2 kc_X10_321 dX10_works_197 ?_
        refine g_lload dX10_works_200 rfl ?_
        obtain ⟨hd_12, h⟩ := h
        refine g_mabs_long hd_12 mk_X10_315 (by first | exact Nat.le_of_ble_eq_true rfl | decide) dX10_works_202 ?_
        obtain ⟨nz_13, h⟩ := h
        refine g_ldiv dX10_works_205 nz_13 ?_
        refine g_lcmp dX10_works_206 ?_
        refine g_if_le (tgt := 212) dX10_works_207 (by decide) (fun c_14 => ?_) (fun c_14 => ?_)
        · have h := h.1 c_14
          exact g_sub [0, 2, 3] rfl h
        · have h := h.2 c_14
          refine g_iconst (0 : Int32) dX10_works_210 rfl ?_
          exact g_iret dX10_works_211 rfl rfl ⟨_, rfl, h⟩
    by_cases c_7_1 : x1 = (43 : Int32)
    · refine g_lookup (off := 98) (tgt := 168) dX10_works_70 (by decide) (by rw [c_7_1]; decide) (by decide) ?_
      have h := h.2.1 c_7_1
      refine g_lload dX10_works_168 rfl ?_
      refine g_lload_n dX10_works_170 rfl ?_
      refine g_ladd dX10_works_171 ?_
      refine g_lstore dX10_works_172 (by decide) (fun l6_15 el6_15 => g_sub (lv' := [(0, .ref (D.2.2 10 r0)), (6, .long l6_15)]) [1, 0] rfl ?_)
      have h := h l6_15 el6_15
      refine g_goto (tgt := 407) dX10_works_174 (by decide) ?_
      exact g_sub [0, 1] rfl h
    by_cases c_7_2 : x1 = (45 : Int32)
    · refine g_lookup (off := 107) (tgt := 177) dX10_works_70 (by decide) (by rw [c_7_2]; decide) (by decide) ?_
      have h := h.2.2.1 c_7_2
      refine g_lload dX10_works_177 rfl ?_
      refine g_lload_n dX10_works_179 rfl ?_
      refine g_lsub dX10_works_180 ?_
      refine g_lstore dX10_works_181 (by decide) (fun l6_16 el6_16 => g_sub (lv' := [(0, .ref (D.2.2 10 r0)), (6, .long l6_16)]) [1, 0] rfl ?_)
      have h := h l6_16 el6_16
      refine g_goto (tgt := 407) dX10_works_183 (by decide) ?_
      exact g_sub [0, 1] rfl h
    by_cases c_7_3 : x1 = (47 : Int32)
    · refine g_lookup (off := 151) (tgt := 221) dX10_works_70 (by decide) (by rw [c_7_3]; decide) (by decide) ?_
      have h := h.2.2.2.1 c_7_3
      refine g_lload_n dX10_works_221 rfl ?_
      refine g_lconst (0 : Int64) dX10_works_222 rfl ?_
      refine g_lcmp dX10_works_223 ?_
      refine g_if_ne (tgt := 229) dX10_works_224 (by decide) (fun c_17 => ?_) (fun c_17 => ?_)
      · have h := h.1 c_17
        refine g_lload dX10_works_229 rfl ?_
        refine g_lload_n dX10_works_231 rfl ?_
        obtain ⟨nz_18, h⟩ := h
        refine g_ldiv dX10_works_232 nz_18 ?_
        refine g_lstore dX10_works_233 (by decide) (fun l6_19 el6_19 => g_sub (lv' := [(0, .ref (D.2.2 10 r0)), (6, .long l6_19)]) [1, 0] rfl ?_)
        have h := h l6_19 el6_19
        refine g_goto (tgt := 407) dX10_works_235 (by decide) ?_
        exact g_sub [0, 1] rfl h
      · have h := h.2 c_17
        refine g_iconst (0 : Int32) dX10_works_227 rfl ?_
        exact g_iret dX10_works_228 rfl rfl ⟨_, rfl, h⟩
    by_cases c_7_4 : x1 = (60 : Int32)
    · refine g_lookup (off := 168) (tgt := 238) dX10_works_70 (by decide) (by rw [c_7_4]; decide) (by decide) ?_
      have h := h.2.2.2.2.1 c_7_4
      refine g_lload dX10_works_238 rfl ?_
      refine g_lload_n dX10_works_240 rfl ?_
      refine g_lcmp dX10_works_241 ?_
      refine g_if_ge (tgt := 249) dX10_works_242 (by decide) (fun c_20 => ?_) (fun c_20 => ?_)
      · have h := h.1 c_20
        refine g_iconst (0 : Int32) dX10_works_249 rfl ?_
        exact g_sub [0] rfl h
      · have h := h.2 c_20
        refine g_iconst (1 : Int32) dX10_works_245 rfl ?_
        refine g_goto (tgt := 250) dX10_works_246 (by decide) ?_
        exact g_sub [0] rfl h
    by_cases c_7_5 : x1 = (61 : Int32)
    · refine g_lookup (off := 208) (tgt := 278) dX10_works_70 (by decide) (by rw [c_7_5]; decide) (by decide) ?_
      have h := h.2.2.2.2.2.1 c_7_5
      refine g_lload dX10_works_278 rfl ?_
      refine g_lload_n dX10_works_280 rfl ?_
      refine g_lcmp dX10_works_281 ?_
      refine g_if_ne (tgt := 289) dX10_works_282 (by decide) (fun c_21 => ?_) (fun c_21 => ?_)
      · have h := h.1 c_21
        refine g_iconst (0 : Int32) dX10_works_289 rfl ?_
        exact g_sub [0] rfl h
      · have h := h.2 c_21
        refine g_iconst (1 : Int32) dX10_works_285 rfl ?_
        refine g_goto (tgt := 290) dX10_works_286 (by decide) ?_
        exact g_sub [0] rfl h
    by_cases c_7_6 : x1 = (62 : Int32)
    · refine g_lookup (off := 188) (tgt := 258) dX10_works_70 (by decide) (by rw [c_7_6]; decide) (by decide) ?_
      have h := h.2.2.2.2.2.2.1 c_7_6
      refine g_lload dX10_works_258 rfl ?_
      refine g_lload_n dX10_works_260 rfl ?_
      refine g_lcmp dX10_works_261 ?_
      refine g_if_le (tgt := 269) dX10_works_262 (by decide) (fun c_22 => ?_) (fun c_22 => ?_)
      · have h := h.1 c_22
        refine g_iconst (0 : Int32) dX10_works_269 rfl ?_
        exact g_sub [0] rfl h
      · have h := h.2 c_22
        refine g_iconst (1 : Int32) dX10_works_265 rfl ?_
        refine g_goto (tgt := 270) dX10_works_266 (by decide) ?_
        exact g_sub [0] rfl h
    by_cases c_7_7 : x1 = (256 : Int32)
    · refine g_lookup (off := 228) (tgt := 298) dX10_works_70 (by decide) (by rw [c_7_7]; decide) (by decide) ?_
      have h := h.2.2.2.2.2.2.2.1 c_7_7
      refine g_lload dX10_works_298 rfl ?_
      refine g_lload_n dX10_works_300 rfl ?_
      refine g_lcmp dX10_works_301 ?_
      refine g_if_gt (tgt := 309) dX10_works_302 (by decide) (fun c_23 => ?_) (fun c_23 => ?_)
      · have h := h.1 c_23
        refine g_iconst (0 : Int32) dX10_works_309 rfl ?_
        exact g_sub [0] rfl h
      · have h := h.2 c_23
        refine g_iconst (1 : Int32) dX10_works_305 rfl ?_
        refine g_goto (tgt := 310) dX10_works_306 (by decide) ?_
        exact g_sub [0] rfl h
    by_cases c_7_8 : x1 = (257 : Int32)
    · refine g_lookup (off := 268) (tgt := 338) dX10_works_70 (by decide) (by rw [c_7_8]; decide) (by decide) ?_
      have h := h.2.2.2.2.2.2.2.2.1 c_7_8
      refine g_lload dX10_works_338 rfl ?_
      refine g_lload_n dX10_works_340 rfl ?_
      refine g_lcmp dX10_works_341 ?_
      refine g_if_eq (tgt := 349) dX10_works_342 (by decide) (fun c_24 => ?_) (fun c_24 => ?_)
      · have h := h.1 c_24
        refine g_iconst (0 : Int32) dX10_works_349 rfl ?_
        exact g_sub [0] rfl h
      · have h := h.2 c_24
        refine g_iconst (1 : Int32) dX10_works_345 rfl ?_
        refine g_goto (tgt := 350) dX10_works_346 (by decide) ?_
        exact g_sub [0] rfl h
    by_cases c_7_9 : x1 = (258 : Int32)
    · refine g_lookup (off := 248) (tgt := 318) dX10_works_70 (by decide) (by rw [c_7_9]; decide) (by decide) ?_
      have h := h.2.2.2.2.2.2.2.2.2.1 c_7_9
      refine g_lload dX10_works_318 rfl ?_
      refine g_lload_n dX10_works_320 rfl ?_
      refine g_lcmp dX10_works_321 ?_
      refine g_if_lt (tgt := 329) dX10_works_322 (by decide) (fun c_25 => ?_) (fun c_25 => ?_)
      · have h := h.1 c_25
        refine g_iconst (0 : Int32) dX10_works_329 rfl ?_
        exact g_sub [0] rfl h
      · have h := h.2 c_25
        refine g_iconst (1 : Int32) dX10_works_325 rfl ?_
        refine g_goto (tgt := 330) dX10_works_326 (by decide) ?_
        exact g_sub [0] rfl h
    by_cases c_7_10 : x1 = (261 : Int32)
    · refine g_lookup (off := 288) (tgt := 358) dX10_works_70 (by decide) (by rw [c_7_10]; decide) (by decide) ?_
      have h := h.2.2.2.2.2.2.2.2.2.2.1 c_7_10
      refine g_lload dX10_works_358 rfl ?_
      refine g_lconst (0 : Int64) dX10_works_360 rfl ?_
      refine g_lcmp dX10_works_361 ?_
      refine g_if_eq (tgt := 375) dX10_works_362 (by decide) (fun c_26 => ?_) (fun c_26 => ?_)
      · have h := h.1 c_26
        exact g_sub [0] rfl h
      · have h := h.2 c_26
        refine g_lload_n dX10_works_365 rfl ?_
        refine g_lconst (0 : Int64) dX10_works_366 rfl ?_
        refine g_lcmp dX10_works_367 ?_
        refine g_if_eq (tgt := 375) dX10_works_368 (by decide) (fun c_27 => ?_) (fun c_27 => ?_)
        · have h := h.1 c_27
          exact g_sub [0] rfl h
        · have h := h.2 c_27
          refine g_iconst (1 : Int32) dX10_works_371 rfl ?_
          refine g_goto (tgt := 376) dX10_works_372 (by decide) ?_
          exact g_sub [0] rfl h
    have c_7_o : Op.lookupswitch.offset [(42, 116), (43, 98), (45, 107), (47, 151), (60, 168), (61, 208), (62, 188), (256, 228), (257, 268), (258, 248), (261, 288)] (314) (x1).toInt = (314) := by
      rw [lv_osw (a := 42) c_7_0 (by decide)]
      rw [lv_osw (a := 43) c_7_1 (by decide)]
      rw [lv_osw (a := 45) c_7_2 (by decide)]
      rw [lv_osw (a := 47) c_7_3 (by decide)]
      rw [lv_osw (a := 60) c_7_4 (by decide)]
      rw [lv_osw (a := 61) c_7_5 (by decide)]
      rw [lv_osw (a := 62) c_7_6 (by decide)]
      rw [lv_osw (a := 256) c_7_7 (by decide)]
      rw [lv_osw (a := 257) c_7_8 (by decide)]
      rw [lv_osw (a := 258) c_7_9 (by decide)]
      rw [lv_osw (a := 261) c_7_10 (by decide)]
      rfl
    refine g_lookup (tgt := 384) dX10_works_70 (by decide) c_7_o (by decide) ?_
    have h := h.2.2.2.2.2.2.2.2.2.2.2 ⟨c_7_0, c_7_1, c_7_2, c_7_3, c_7_4, c_7_5, c_7_6, c_7_7, c_7_8, c_7_9, c_7_10⟩
    refine g_lload dX10_works_384 rfl ?_
    refine g_lconst (0 : Int64) dX10_works_386 rfl ?_
    refine g_lcmp dX10_works_387 ?_
    refine g_if_ne (tgt := 397) dX10_works_388 (by decide) (fun c_8 => ?_) (fun c_8 => ?_)
    · have h := h.1 c_8
      exact g_sub [0] rfl h
    · have h := h.2 c_8
      refine g_lload_n dX10_works_391 rfl ?_
      refine g_lconst (0 : Int64) dX10_works_392 rfl ?_
      refine g_lcmp dX10_works_393 ?_
      refine g_if_eq (tgt := 401) dX10_works_394 (by decide) (fun c_9 => ?_) (fun c_9 => ?_)
      · have h := h.1 c_9
        refine g_iconst (0 : Int32) dX10_works_401 rfl ?_
        exact g_sub [0] rfl h
      · have h := h.2 c_9
        exact g_sub [0] rfl h
  · have h := h.2 c_3
    refine g_aload_n dX10_works_19 rfl ?_
    refine g_gfR fl_10_63 rfl hr0 dX10_works_20 ?_
    refine g_aload_n dX10_works_23 rfl ?_
    refine g_gfI fi_10_308 hr0 dX10_works_24 ?_
    refine g_iconst (1 : Int32) dX10_works_27 rfl ?_
    refine g_isub dX10_works_28 ?_
    refine g_lload_n dX10_works_29 rfl ?_
    refine g_lconst (0 : Int64) dX10_works_30 rfl ?_
    refine g_lcmp dX10_works_31 ?_
    refine g_if_ne (tgt := 39) dX10_works_32 (by decide) (fun c_28 => ?_) (fun c_28 => ?_)
    · have h := h.1 c_28
      refine g_iconst (0 : Int32) dX10_works_39 rfl ?_
      exact g_sub [] rfl h
    · have h := h.2 c_28
      refine g_iconst (1 : Int32) dX10_works_35 rfl ?_
      refine g_goto (tgt := 40) dX10_works_36 (by decide) ?_
      exact g_sub [] rfl h
set_option maxRecDepth 20000 in
set_option maxHeartbeats 4000000 in
theorem bl_X10_works_1 {l : Launch} {D : gD} {d : Nat} {q : Int32 → gMem → Prop} {Γ : gC} {rs0 : Nat} {xs1 : Int32} {xs2 : Int32} {μ : gMem} (hrs0 : rs0 < 1) (h : (0 < d) ∧ (∃ j_5 : Nat, j_5 < 64 ∧ xs1 = nI j_5 ∧ (∀ μ_6 : gMem, μ_6 = gsL μ 735 rs0 j_5 (jI xs2) → q (1 : Int32) μ_6))) : pt_X10_works_1 l D d q Γ rs0 xs1 xs2 μ := by
  unfold pt_X10_works_1
  obtain ⟨hd_1, h⟩ := h
  refine g_callS ca_X10_311 (c_X10_is (d := 0) (Nat.le_refl _) ) hd_1 (by decide) rfl rfl (by first | exact Nat.le_of_ble_eq_true rfl | decide) dX10_works_40 (kJ (fun v_2 μ_3 hq_4 => ?_))
  obtain ⟨ev_2, eμ_3⟩ := hq_4
  subst ev_2
  refine g_mem eμ_3 ?_
  obtain ⟨j_5, hj_5, ej_5, h⟩ := h
  refine g_last j_5 hrs0 rfl hj_5 (by decide) ej_5 dX10_works_43 ?_
  obtain ⟨μ_6, eμ_6⟩ : ∃ z : gMem, z = gsL μ 735 rs0 j_5 (jI xs2) := ⟨_, rfl⟩
  have h := h μ_6 eμ_6
  refine g_mem eμ_6.symm ?_
  refine g_iconst (1 : Int32) dX10_works_44 rfl ?_
  exact g_iret dX10_works_45 rfl rfl ⟨_, rfl, h⟩
set_option maxRecDepth 20000 in
set_option maxHeartbeats 4000000 in
theorem bl_X10_works_2 {l : Launch} {D : gD} {d : Nat} {q : Int32 → gMem → Prop} {Γ : gC} {r0 : Nat} {l2 : Int64} {l4 : Int64} {μ : gMem} (hr0 : r0 < 1) (h : ∀ l6_1 : Int64, l6_1 = l4 * l2 → pt_X10_works_13 l D d q Γ r0 l6_1 μ) : pt_X10_works_2 l D d q Γ r0 l2 l4 μ := by
  unfold pt_X10_works_2
  refine g_lload dX10_works_212 rfl ?_
  refine g_lload_n dX10_works_214 rfl ?_
  refine g_lmul dX10_works_215 ?_
  refine g_lstore dX10_works_216 (by decide) (fun l6_1 el6_1 => g_sub (lv' := [(0, .ref (D.2.2 10 r0)), (6, .long l6_1)]) [1, 0] rfl ?_)
  have h := h l6_1 el6_1
  refine g_goto (tgt := 407) dX10_works_218 (by decide) ?_
  exact g_sub [0, 1] rfl h
set_option maxRecDepth 20000 in
set_option maxHeartbeats 4000000 in
theorem bl_X10_works_3 {l : Launch} {D : gD} {d : Nat} {q : Int32 → gMem → Prop} {Γ : gC} {r0 : Nat} {xs0 : Int32} {μ : gMem} (hr0 : r0 < 1) (h : (0 < d) ∧ (∀ l6_5 : Int64, l6_5 = jI xs0 → pt_X10_works_13 l D d q Γ r0 l6_5 μ)) : pt_X10_works_3 l D d q Γ r0 xs0 μ := by
  unfold pt_X10_works_3
  obtain ⟨hd_1, h⟩ := h
  refine g_callS ca_X10_311 (c_X10_is (d := 0) (Nat.le_refl _) ) hd_1 (by decide) rfl rfl (by first | exact Nat.le_of_ble_eq_true rfl | decide) dX10_works_250 (kJ (fun v_2 μ_3 hq_4 => ?_))
  obtain ⟨ev_2, eμ_3⟩ := hq_4
  subst ev_2
  refine g_mem eμ_3 ?_
  refine g_lstore dX10_works_253 (by decide) (fun l6_5 el6_5 => g_sub (lv' := [(0, .ref (D.2.2 10 r0)), (6, .long l6_5)]) [1, 0] rfl ?_)
  have h := h l6_5 el6_5
  refine g_goto (tgt := 407) dX10_works_255 (by decide) ?_
  exact g_sub [0, 1] rfl h
set_option maxRecDepth 20000 in
set_option maxHeartbeats 4000000 in
theorem bl_X10_works_4 {l : Launch} {D : gD} {d : Nat} {q : Int32 → gMem → Prop} {Γ : gC} {r0 : Nat} {xs0 : Int32} {μ : gMem} (hr0 : r0 < 1) (h : (0 < d) ∧ (∀ l6_5 : Int64, l6_5 = jI xs0 → pt_X10_works_13 l D d q Γ r0 l6_5 μ)) : pt_X10_works_4 l D d q Γ r0 xs0 μ := by
  unfold pt_X10_works_4
  obtain ⟨hd_1, h⟩ := h
  refine g_callS ca_X10_311 (c_X10_is (d := 0) (Nat.le_refl _) ) hd_1 (by decide) rfl rfl (by first | exact Nat.le_of_ble_eq_true rfl | decide) dX10_works_270 (kJ (fun v_2 μ_3 hq_4 => ?_))
  obtain ⟨ev_2, eμ_3⟩ := hq_4
  subst ev_2
  refine g_mem eμ_3 ?_
  refine g_lstore dX10_works_273 (by decide) (fun l6_5 el6_5 => g_sub (lv' := [(0, .ref (D.2.2 10 r0)), (6, .long l6_5)]) [1, 0] rfl ?_)
  have h := h l6_5 el6_5
  refine g_goto (tgt := 407) dX10_works_275 (by decide) ?_
  exact g_sub [0, 1] rfl h
set_option maxRecDepth 20000 in
set_option maxHeartbeats 4000000 in
theorem bl_X10_works_5 {l : Launch} {D : gD} {d : Nat} {q : Int32 → gMem → Prop} {Γ : gC} {r0 : Nat} {xs0 : Int32} {μ : gMem} (hr0 : r0 < 1) (h : (0 < d) ∧ (∀ l6_5 : Int64, l6_5 = jI xs0 → pt_X10_works_13 l D d q Γ r0 l6_5 μ)) : pt_X10_works_5 l D d q Γ r0 xs0 μ := by
  unfold pt_X10_works_5
  obtain ⟨hd_1, h⟩ := h
  refine g_callS ca_X10_311 (c_X10_is (d := 0) (Nat.le_refl _) ) hd_1 (by decide) rfl rfl (by first | exact Nat.le_of_ble_eq_true rfl | decide) dX10_works_290 (kJ (fun v_2 μ_3 hq_4 => ?_))
  obtain ⟨ev_2, eμ_3⟩ := hq_4
  subst ev_2
  refine g_mem eμ_3 ?_
  refine g_lstore dX10_works_293 (by decide) (fun l6_5 el6_5 => g_sub (lv' := [(0, .ref (D.2.2 10 r0)), (6, .long l6_5)]) [1, 0] rfl ?_)
  have h := h l6_5 el6_5
  refine g_goto (tgt := 407) dX10_works_295 (by decide) ?_
  exact g_sub [0, 1] rfl h
set_option maxRecDepth 20000 in
set_option maxHeartbeats 4000000 in
theorem bl_X10_works_6 {l : Launch} {D : gD} {d : Nat} {q : Int32 → gMem → Prop} {Γ : gC} {r0 : Nat} {xs0 : Int32} {μ : gMem} (hr0 : r0 < 1) (h : (0 < d) ∧ (∀ l6_5 : Int64, l6_5 = jI xs0 → pt_X10_works_13 l D d q Γ r0 l6_5 μ)) : pt_X10_works_6 l D d q Γ r0 xs0 μ := by
  unfold pt_X10_works_6
  obtain ⟨hd_1, h⟩ := h
  refine g_callS ca_X10_311 (c_X10_is (d := 0) (Nat.le_refl _) ) hd_1 (by decide) rfl rfl (by first | exact Nat.le_of_ble_eq_true rfl | decide) dX10_works_310 (kJ (fun v_2 μ_3 hq_4 => ?_))
  obtain ⟨ev_2, eμ_3⟩ := hq_4
  subst ev_2
  refine g_mem eμ_3 ?_
  refine g_lstore dX10_works_313 (by decide) (fun l6_5 el6_5 => g_sub (lv' := [(0, .ref (D.2.2 10 r0)), (6, .long l6_5)]) [1, 0] rfl ?_)
  have h := h l6_5 el6_5
  refine g_goto (tgt := 407) dX10_works_315 (by decide) ?_
  exact g_sub [0, 1] rfl h
set_option maxRecDepth 20000 in
set_option maxHeartbeats 4000000 in
theorem bl_X10_works_7 {l : Launch} {D : gD} {d : Nat} {q : Int32 → gMem → Prop} {Γ : gC} {r0 : Nat} {xs0 : Int32} {μ : gMem} (hr0 : r0 < 1) (h : (0 < d) ∧ (∀ l6_5 : Int64, l6_5 = jI xs0 → pt_X10_works_13 l D d q Γ r0 l6_5 μ)) : pt_X10_works_7 l D d q Γ r0 xs0 μ := by
  unfold pt_X10_works_7
  obtain ⟨hd_1, h⟩ := h
  refine g_callS ca_X10_311 (c_X10_is (d := 0) (Nat.le_refl _) ) hd_1 (by decide) rfl rfl (by first | exact Nat.le_of_ble_eq_true rfl | decide) dX10_works_330 (kJ (fun v_2 μ_3 hq_4 => ?_))
  obtain ⟨ev_2, eμ_3⟩ := hq_4
  subst ev_2
  refine g_mem eμ_3 ?_
  refine g_lstore dX10_works_333 (by decide) (fun l6_5 el6_5 => g_sub (lv' := [(0, .ref (D.2.2 10 r0)), (6, .long l6_5)]) [1, 0] rfl ?_)
  have h := h l6_5 el6_5
  refine g_goto (tgt := 407) dX10_works_335 (by decide) ?_
  exact g_sub [0, 1] rfl h
set_option maxRecDepth 20000 in
set_option maxHeartbeats 4000000 in
theorem bl_X10_works_8 {l : Launch} {D : gD} {d : Nat} {q : Int32 → gMem → Prop} {Γ : gC} {r0 : Nat} {xs0 : Int32} {μ : gMem} (hr0 : r0 < 1) (h : (0 < d) ∧ (∀ l6_5 : Int64, l6_5 = jI xs0 → pt_X10_works_13 l D d q Γ r0 l6_5 μ)) : pt_X10_works_8 l D d q Γ r0 xs0 μ := by
  unfold pt_X10_works_8
  obtain ⟨hd_1, h⟩ := h
  refine g_callS ca_X10_311 (c_X10_is (d := 0) (Nat.le_refl _) ) hd_1 (by decide) rfl rfl (by first | exact Nat.le_of_ble_eq_true rfl | decide) dX10_works_350 (kJ (fun v_2 μ_3 hq_4 => ?_))
  obtain ⟨ev_2, eμ_3⟩ := hq_4
  subst ev_2
  refine g_mem eμ_3 ?_
  refine g_lstore dX10_works_353 (by decide) (fun l6_5 el6_5 => g_sub (lv' := [(0, .ref (D.2.2 10 r0)), (6, .long l6_5)]) [1, 0] rfl ?_)
  have h := h l6_5 el6_5
  refine g_goto (tgt := 407) dX10_works_355 (by decide) ?_
  exact g_sub [0, 1] rfl h
set_option maxRecDepth 20000 in
set_option maxHeartbeats 4000000 in
theorem bl_X10_works_9 {l : Launch} {D : gD} {d : Nat} {q : Int32 → gMem → Prop} {Γ : gC} {r0 : Nat} {μ : gMem} (hr0 : r0 < 1) (h : pt_X10_works_10 l D d q Γ r0 (0 : Int32) μ) : pt_X10_works_9 l D d q Γ r0 μ := by
  unfold pt_X10_works_9
  refine g_iconst (0 : Int32) dX10_works_375 rfl ?_
  exact g_sub [0] rfl h
set_option maxRecDepth 20000 in
set_option maxHeartbeats 4000000 in
theorem bl_X10_works_10 {l : Launch} {D : gD} {d : Nat} {q : Int32 → gMem → Prop} {Γ : gC} {r0 : Nat} {xs0 : Int32} {μ : gMem} (hr0 : r0 < 1) (h : (0 < d) ∧ (∀ l6_5 : Int64, l6_5 = jI xs0 → pt_X10_works_13 l D d q Γ r0 l6_5 μ)) : pt_X10_works_10 l D d q Γ r0 xs0 μ := by
  unfold pt_X10_works_10
  obtain ⟨hd_1, h⟩ := h
  refine g_callS ca_X10_311 (c_X10_is (d := 0) (Nat.le_refl _) ) hd_1 (by decide) rfl rfl (by first | exact Nat.le_of_ble_eq_true rfl | decide) dX10_works_376 (kJ (fun v_2 μ_3 hq_4 => ?_))
  obtain ⟨ev_2, eμ_3⟩ := hq_4
  subst ev_2
  refine g_mem eμ_3 ?_
  refine g_lstore dX10_works_379 (by decide) (fun l6_5 el6_5 => g_sub (lv' := [(0, .ref (D.2.2 10 r0)), (6, .long l6_5)]) [1, 0] rfl ?_)
  have h := h l6_5 el6_5
  refine g_goto (tgt := 407) dX10_works_381 (by decide) ?_
  exact g_sub [0, 1] rfl h
set_option maxRecDepth 20000 in
set_option maxHeartbeats 4000000 in
theorem bl_X10_works_11 {l : Launch} {D : gD} {d : Nat} {q : Int32 → gMem → Prop} {Γ : gC} {r0 : Nat} {μ : gMem} (hr0 : r0 < 1) (h : pt_X10_works_12 l D d q Γ r0 (1 : Int32) μ) : pt_X10_works_11 l D d q Γ r0 μ := by
  unfold pt_X10_works_11
  refine g_iconst (1 : Int32) dX10_works_397 rfl ?_
  refine g_goto (tgt := 402) dX10_works_398 (by decide) ?_
  exact g_sub [0] rfl h
set_option maxRecDepth 20000 in
set_option maxHeartbeats 4000000 in
theorem bl_X10_works_12 {l : Launch} {D : gD} {d : Nat} {q : Int32 → gMem → Prop} {Γ : gC} {r0 : Nat} {xs0 : Int32} {μ : gMem} (hr0 : r0 < 1) (h : (0 < d) ∧ (∀ l6_5 : Int64, l6_5 = jI xs0 → pt_X10_works_13 l D d q Γ r0 l6_5 μ)) : pt_X10_works_12 l D d q Γ r0 xs0 μ := by
  unfold pt_X10_works_12
  obtain ⟨hd_1, h⟩ := h
  refine g_callS ca_X10_311 (c_X10_is (d := 0) (Nat.le_refl _) ) hd_1 (by decide) rfl rfl (by first | exact Nat.le_of_ble_eq_true rfl | decide) dX10_works_402 (kJ (fun v_2 μ_3 hq_4 => ?_))
  obtain ⟨ev_2, eμ_3⟩ := hq_4
  subst ev_2
  refine g_mem eμ_3 ?_
  refine g_lstore dX10_works_405 (by decide) (fun l6_5 el6_5 => g_sub (lv' := [(0, .ref (D.2.2 10 r0)), (6, .long l6_5)]) [1, 0] rfl ?_)
  have h := h l6_5 el6_5
  exact g_sub [0, 1] rfl h
set_option maxRecDepth 20000 in
set_option maxHeartbeats 4000000 in
theorem bl_X10_works_13 {l : Launch} {D : gD} {d : Nat} {q : Int32 → gMem → Prop} {Γ : gC} {r0 : Nat} {l6 : Int64} {μ : gMem} (hr0 : r0 < 1) (h : ∃ j_1 : Nat, j_1 < 64 ∧ (μ.1 10 r0 32) - (1 : Int32) = nI j_1 ∧ (∀ μ_2 : gMem, μ_2 = gsL μ 735 r0 j_1 l6 → ((0 < (lg_cmp l6 (1000000000000 : Int64))) → q (0 : Int32) μ_2) ∧ ((¬ 0 < (lg_cmp l6 (1000000000000 : Int64))) → (((lg_cmp l6 (-1000000000000 : Int64)) < 0) → q (0 : Int32) μ_2) ∧ ((¬ (lg_cmp l6 (-1000000000000 : Int64)) < 0) → q (1 : Int32) μ_2)))) : pt_X10_works_13 l D d q Γ r0 l6 μ := by
  unfold pt_X10_works_13
  refine g_aload_n dX10_works_407 rfl ?_
  refine g_gfR fl_10_63 rfl hr0 dX10_works_408 ?_
  refine g_aload_n dX10_works_411 rfl ?_
  refine g_gfI fi_10_308 hr0 dX10_works_412 ?_
  refine g_iconst (1 : Int32) dX10_works_415 rfl ?_
  refine g_isub dX10_works_416 ?_
  refine g_lload dX10_works_417 rfl ?_
  obtain ⟨j_1, hj_1, ej_1, h⟩ := h
  refine g_last j_1 hr0 rfl hj_1 (by decide) ej_1 dX10_works_419 ?_
  obtain ⟨μ_2, eμ_2⟩ : ∃ z : gMem, z = gsL μ 735 r0 j_1 l6 := ⟨_, rfl⟩
  have h := h μ_2 eμ_2
  refine g_mem eμ_2.symm ?_
  refine g_lload dX10_works_420 rfl ?_
  refine g_ldc2 kc_X10_321 dX10_works_422 ?_
  refine g_lcmp dX10_works_425 ?_
  refine g_if_gt (tgt := 442) dX10_works_426 (by decide) (fun c_3 => ?_) (fun c_3 => ?_)
  · have h := h.1 c_3
    refine g_iconst (0 : Int32) dX10_works_442 rfl ?_
    exact g_iret dX10_works_443 rfl rfl ⟨_, rfl, h⟩
  · have h := h.2 c_3
    refine g_lload dX10_works_429 rfl ?_
    refine g_ldc2 kc_X10_323 dX10_works_431 ?_
    refine g_lcmp dX10_works_434 ?_
    refine g_if_lt (tgt := 442) dX10_works_435 (by decide) (fun c_4 => ?_) (fun c_4 => ?_)
    · have h := h.1 c_4
      refine g_iconst (0 : Int32) dX10_works_442 rfl ?_
      exact g_iret dX10_works_443 rfl rfl ⟨_, rfl, h⟩
    · have h := h.2 c_4
      refine g_iconst (1 : Int32) dX10_works_438 rfl ?_
      refine g_goto (tgt := 443) dX10_works_439 (by decide) ?_
      exact g_iret dX10_works_443 rfl rfl ⟨_, rfl, h⟩
theorem en_X10_works {l : Launch} {D : gD} {d : Nat} {q : Int32 → gMem → Prop} {r0 : Nat} {x1 : Int32} {μ : gMem} (h : ∀ Γ : gC, pt_X10_works_0 l D d q Γ r0 x1 μ) : Ctr l D d yX10_works cX10_works 8 (some .boolean) [.ref (D.2.2 10 r0), .int x1] μ (pI q) :=
  Ctr_of rfl (by decide) (Nat.le_of_ble_eq_true rfl) (fun Γ => g_sub [0, 1] rfl (h Γ))
def pt_X10_goes_0 (l : Launch) (D : gD) (d : Nat) (q : Int32 → gMem → Prop) (Γ : gC) (r0 : Nat) (x1 : Int32) (μ : gMem) : Prop := G l D RX10 cX10_goes 3 (some .boolean) d (pI q) Γ 0 [(0, .ref (D.2.2 10 r0)), (1, .int x1)] [] μ
def pt_X10_goes_1 (l : Launch) (D : gD) (d : Nat) (q : Int32 → gMem → Prop) (Γ : gC) (r0 : Nat) (x1 : Int32) (x2 : Int32) (μ : gMem) : Prop := G l D RX10 cX10_goes 3 (some .boolean) d (pI q) Γ 12 [(0, .ref (D.2.2 10 r0)), (1, .int x1), (2, .int x2)] [] μ
def pt_X10_goes_2 (l : Launch) (D : gD) (d : Nat) (q : Int32 → gMem → Prop) (Γ : gC) (r0 : Nat) (x1 : Int32) (x2 : Int32) (rs0 : Nat) (xs1 : Int32) (ls2 : Int64) (μ : gMem) : Prop := G l D RX10 cX10_goes 3 (some .boolean) d (pI q) Γ 85 [(0, .ref (D.2.2 10 r0)), (1, .int x1), (2, .int x2)] [.long ls2, .int xs1, .ref (D.2.2 735 rs0)] μ
def pt_X10_goes_3 (l : Launch) (D : gD) (d : Nat) (q : Int32 → gMem → Prop) (Γ : gC) (r0 : Nat) (x1 : Int32) (x2 : Int32) (μ : gMem) : Prop := G l D RX10 cX10_goes 3 (some .boolean) d (pI q) Γ 96 [(0, .ref (D.2.2 10 r0)), (1, .int x1), (2, .int x2)] [] μ
set_option maxRecDepth 20000 in
set_option maxHeartbeats 4000000 in
theorem bl_X10_goes_0 {l : Launch} {D : gD} {d : Nat} {q : Int32 → gMem → Prop} {Γ : gC} {r0 : Nat} {x1 : Int32} {μ : gMem} (hr0 : r0 < 1) (h : ∀ μ_1 : gMem, μ_1 = gsI μ 10 r0 32 (0 : Int32) → ∃ j_2 : Nat, j_2 < 6 ∧ x1 = nI j_2 ∧ (∀ x2_3 : Int32, x2_3 = μ_1.1 717 r0 j_2 → pt_X10_goes_1 l D d q Γ r0 x1 x2_3 μ_1)) : pt_X10_goes_0 l D d q Γ r0 x1 μ := by
  unfold pt_X10_goes_0
  refine g_aload_n dX10_goes_0 rfl ?_
  refine g_iconst (0 : Int32) dX10_goes_1 rfl ?_
  refine g_pfI fi_10_308 hr0 rfl rfl dX10_goes_2 ?_
  obtain ⟨μ_1, eμ_1⟩ : ∃ z : gMem, z = gsI μ 10 r0 32 (0 : Int32) := ⟨_, rfl⟩
  have h := h μ_1 eμ_1
  refine g_mem eμ_1.symm ?_
  refine g_aload_n dX10_goes_5 rfl ?_
  refine g_gfR fl_10_43 rfl hr0 dX10_goes_6 ?_
  refine g_iload_n dX10_goes_9 rfl ?_
  obtain ⟨j_2, hj_2, ej_2, h⟩ := h
  refine g_iald j_2 hr0 rfl hj_2 (by decide) ej_2 dX10_goes_10 ?_
  refine g_istore_n dX10_goes_11 (by decide) (fun x2_3 ex2_3 => g_sub (lv' := [(0, .ref (D.2.2 10 r0)), (1, .int x1), (2, .int x2_3)]) [1, 2, 0] rfl ?_)
  have h := h x2_3 ex2_3
  exact g_sub [0, 1, 2] rfl h
set_option maxRecDepth 20000 in
set_option maxHeartbeats 4000000 in
theorem bl_X10_goes_1 {l : Launch} {D : gD} {d : Nat} {q : Int32 → gMem → Prop} {Γ : gC} {r0 : Nat} {x1 : Int32} {x2 : Int32} {μ : gMem} (hr0 : r0 < 1) (h : ∃ j_1 : Nat, j_1 < 6 ∧ x1 = nI j_1 ∧ ((((μ.1 718 r0 j_1) ≤ x2) → q (1 : Int32) μ) ∧ ((¬ (μ.1 718 r0 j_1) ≤ x2) → ∃ j_3 : Nat, j_3 < 128 ∧ x2 = nI j_3 ∧ (((¬ (μ.1 719 r0 j_3) = (2 : Int32)) → ∃ j_5 : Nat, j_5 < 128 ∧ x2 = nI j_5 ∧ (((¬ (μ.1 719 r0 j_5) = 0) → ∃ j_7 : Nat, j_7 < 128 ∧ x2 = nI j_7 ∧ (∃ j_8 : Nat, j_8 < 7 ∧ μ.1 720 r0 j_7 = nI j_8 ∧ (pt_X10_goes_2 l D d q Γ r0 x1 x2 r0 (μ.1 10 r0 32) (μ.2.1 734 r0 j_8) μ))) ∧ (((μ.1 719 r0 j_5) = 0) → ∃ j_9 : Nat, j_9 < 128 ∧ x2 = nI j_9 ∧ (pt_X10_goes_2 l D d q Γ r0 x1 x2 r0 (μ.1 10 r0 32) ((μ.1 720 r0 j_9).toInt64) μ)))) ∧ (((μ.1 719 r0 j_3) = (2 : Int32)) → ∃ j_10 : Nat, j_10 < 128 ∧ x2 = nI j_10 ∧ (∃ (d_11 : Nat) (q_12 : Int32 → gMem → Prop), d_11 < d ∧ Ctr l D d_11 yX10_works cX10_works 8 (some .boolean) [.ref (D.2.2 10 r0), .int (μ.1 720 r0 j_10)] μ (pI q_12) ∧ ∀ (v_16 : Int32) (μ_15 : gMem), q_12 v_16 μ_15 → ((¬ v_16 = 0) → pt_X10_goes_3 l D d q Γ r0 x1 x2 μ_15) ∧ ((v_16 = 0) → q (0 : Int32) μ_15))))))) : pt_X10_goes_1 l D d q Γ r0 x1 x2 μ := by
  unfold pt_X10_goes_1
  refine g_iload_n dX10_goes_12 rfl ?_
  refine g_aload_n dX10_goes_13 rfl ?_
  refine g_gfR fl_10_46 rfl hr0 dX10_goes_14 ?_
  refine g_iload_n dX10_goes_17 rfl ?_
  obtain ⟨j_1, hj_1, ej_1, h⟩ := h
  refine g_iald j_1 hr0 rfl hj_1 (by decide) ej_1 dX10_goes_18 ?_
  refine g_icmp_ge (tgt := 102) dX10_goes_19 (by decide) (fun c_2 => ?_) (fun c_2 => ?_)
  · have h := h.1 c_2
    refine g_iconst (1 : Int32) dX10_goes_102 rfl ?_
    exact g_iret dX10_goes_103 rfl rfl ⟨_, rfl, h⟩
  · have h := h.2 c_2
    refine g_aload_n dX10_goes_22 rfl ?_
    refine g_gfR fl_10_49 rfl hr0 dX10_goes_23 ?_
    refine g_iload_n dX10_goes_26 rfl ?_
    obtain ⟨j_3, hj_3, ej_3, h⟩ := h
    refine g_iald j_3 hr0 rfl hj_3 (by decide) ej_3 dX10_goes_27 ?_
    refine g_iconst (2 : Int32) dX10_goes_28 rfl ?_
    refine g_icmp_ne (tgt := 47) dX10_goes_29 (by decide) (fun c_4 => ?_) (fun c_4 => ?_)
    · have h := h.1 c_4
      refine g_aload_n dX10_goes_47 rfl ?_
      refine g_gfR fl_10_63 rfl hr0 dX10_goes_48 ?_
      refine g_aload_n dX10_goes_51 rfl ?_
      refine g_gfI fi_10_308 hr0 dX10_goes_52 ?_
      refine g_aload_n dX10_goes_55 rfl ?_
      refine g_gfR fl_10_49 rfl hr0 dX10_goes_56 ?_
      refine g_iload_n dX10_goes_59 rfl ?_
      obtain ⟨j_5, hj_5, ej_5, h⟩ := h
      refine g_iald j_5 hr0 rfl hj_5 (by decide) ej_5 dX10_goes_60 ?_
      refine g_if_ne (tgt := 74) dX10_goes_61 (by decide) (fun c_6 => ?_) (fun c_6 => ?_)
      · have h := h.1 c_6
        refine g_aload_n dX10_goes_74 rfl ?_
        refine g_gfR fl_10_59 rfl hr0 dX10_goes_75 ?_
        refine g_aload_n dX10_goes_78 rfl ?_
        refine g_gfR fl_10_52 rfl hr0 dX10_goes_79 ?_
        refine g_iload_n dX10_goes_82 rfl ?_
        obtain ⟨j_7, hj_7, ej_7, h⟩ := h
        refine g_iald j_7 hr0 rfl hj_7 (by decide) ej_7 dX10_goes_83 ?_
        obtain ⟨j_8, hj_8, ej_8, h⟩ := h
        refine g_lald j_8 hr0 rfl hj_8 (by decide) ej_8 dX10_goes_84 ?_
        exact g_sub [0, 1, 2] rfl h
      · have h := h.2 c_6
        refine g_aload_n dX10_goes_64 rfl ?_
        refine g_gfR fl_10_52 rfl hr0 dX10_goes_65 ?_
        refine g_iload_n dX10_goes_68 rfl ?_
        obtain ⟨j_9, hj_9, ej_9, h⟩ := h
        refine g_iald j_9 hr0 rfl hj_9 (by decide) ej_9 dX10_goes_69 ?_
        refine g_i2l dX10_goes_70 ?_
        refine g_goto (tgt := 85) dX10_goes_71 (by decide) ?_
        exact g_sub [0, 1, 2] rfl h
    · have h := h.2 c_4
      refine g_aload_n dX10_goes_32 rfl ?_
      refine g_aload_n dX10_goes_33 rfl ?_
      refine g_gfR fl_10_52 rfl hr0 dX10_goes_34 ?_
      refine g_iload_n dX10_goes_37 rfl ?_
      obtain ⟨j_10, hj_10, ej_10, h⟩ := h
      refine g_iald j_10 hr0 rfl hj_10 (by decide) ej_10 dX10_goes_38 ?_
      obtain ⟨d_11, q_12, hd_13, hc_14, h⟩ := h
      refine g_cV ca_X10_325 ob_10 hc_14 hd_13 (by decide) hr0 rfl rfl (by first | exact Nat.le_of_ble_eq_true rfl | decide) dX10_goes_39 (kI (fun v_16 μ_15 hq_17 => ?_))
      have h := h v_16 μ_15 hq_17
      refine g_if_ne (tgt := 96) dX10_goes_42 (by decide) (fun c_18 => ?_) (fun c_18 => ?_)
      · have h := h.1 c_18
        exact g_sub [0, 1, 2] rfl h
      · have h := h.2 c_18
        refine g_iconst (0 : Int32) dX10_goes_45 rfl ?_
        exact g_iret dX10_goes_46 rfl rfl ⟨_, rfl, h⟩
set_option maxRecDepth 20000 in
set_option maxHeartbeats 4000000 in
theorem bl_X10_goes_2 {l : Launch} {D : gD} {d : Nat} {q : Int32 → gMem → Prop} {Γ : gC} {r0 : Nat} {x1 : Int32} {x2 : Int32} {rs0 : Nat} {xs1 : Int32} {ls2 : Int64} {μ : gMem} (hr0 : r0 < 1) (hrs0 : rs0 < 1) (h : ∃ j_1 : Nat, j_1 < 64 ∧ xs1 = nI j_1 ∧ (∀ μ_2 : gMem, μ_2 = gsL μ 735 rs0 j_1 ls2 → ∀ μ_3 : gMem, μ_3 = gsI μ_2 10 r0 32 ((μ_2.1 10 r0 32) + (1 : Int32)) → pt_X10_goes_3 l D d q Γ r0 x1 x2 μ_3)) : pt_X10_goes_2 l D d q Γ r0 x1 x2 rs0 xs1 ls2 μ := by
  unfold pt_X10_goes_2
  obtain ⟨j_1, hj_1, ej_1, h⟩ := h
  refine g_last j_1 hrs0 rfl hj_1 (by decide) ej_1 dX10_goes_85 ?_
  obtain ⟨μ_2, eμ_2⟩ : ∃ z : gMem, z = gsL μ 735 rs0 j_1 ls2 := ⟨_, rfl⟩
  have h := h μ_2 eμ_2
  refine g_mem eμ_2.symm ?_
  refine g_aload_n dX10_goes_86 rfl ?_
  refine g_dup dX10_goes_87 rfl ?_
  refine g_gfI fi_10_308 hr0 dX10_goes_88 ?_
  refine g_iconst (1 : Int32) dX10_goes_91 rfl ?_
  refine g_iadd dX10_goes_92 ?_
  refine g_pfI fi_10_308 hr0 rfl rfl dX10_goes_93 ?_
  obtain ⟨μ_3, eμ_3⟩ : ∃ z : gMem, z = gsI μ_2 10 r0 32 ((μ_2.1 10 r0 32) + (1 : Int32)) := ⟨_, rfl⟩
  have h := h μ_3 eμ_3
  refine g_mem eμ_3.symm ?_
  exact g_sub [0, 1, 2] rfl h
set_option maxRecDepth 20000 in
set_option maxHeartbeats 4000000 in
theorem bl_X10_goes_3 {l : Launch} {D : gD} {d : Nat} {q : Int32 → gMem → Prop} {Γ : gC} {r0 : Nat} {x1 : Int32} {x2 : Int32} {μ : gMem} (hr0 : r0 < 1) (h : ∀ x2_1 : Int32, x2_1 = x2 + (1 : Int32) → pt_X10_goes_1 l D d q Γ r0 x1 x2_1 μ) : pt_X10_goes_3 l D d q Γ r0 x1 x2 μ := by
  unfold pt_X10_goes_3
  refine g_iinc dX10_goes_96 rfl (by decide) (fun x2_1 ex2_1 => g_sub (lv' := [(0, .ref (D.2.2 10 r0)), (1, .int x1), (2, .int x2_1)]) [1, 2, 0] rfl ?_)
  have h := h x2_1 ex2_1
  refine g_goto (tgt := 12) dX10_goes_99 (by decide) ?_
  exact g_sub [0, 1, 2] rfl h
theorem en_X10_goes {l : Launch} {D : gD} {d : Nat} {q : Int32 → gMem → Prop} {r0 : Nat} {x1 : Int32} {μ : gMem} (h : ∀ Γ : gC, pt_X10_goes_0 l D d q Γ r0 x1 μ) : Ctr l D d yX10_goes cX10_goes 3 (some .boolean) [.ref (D.2.2 10 r0), .int x1] μ (pI q) :=
  Ctr_of rfl (by decide) (Nat.le_of_ble_eq_true rfl) (fun Γ => g_sub [0, 1] rfl (h Γ))
def pt_X10_hasLaw_0 (l : Launch) (D : gD) (d : Nat) (q : Int32 → gMem → Prop) (Γ : gC) (r0 : Nat) (x1 : Int32) (μ : gMem) : Prop := G l D RX10 cX10_hasLaw 2 (some .boolean) d (pI q) Γ 0 [(0, .ref (D.2.2 10 r0)), (1, .int x1)] [] μ
set_option maxRecDepth 20000 in
set_option maxHeartbeats 4000000 in
theorem bl_X10_hasLaw_0 {l : Launch} {D : gD} {d : Nat} {q : Int32 → gMem → Prop} {Γ : gC} {r0 : Nat} {x1 : Int32} {μ : gMem} (hr0 : r0 < 1) (h : ∃ j_1 : Nat, j_1 < 6 ∧ x1 = nI j_1 ∧ (∃ j_2 : Nat, j_2 < 6 ∧ x1 = nI j_2 ∧ ((((μ.1 718 r0 j_1) ≤ (μ.1 717 r0 j_2)) → q (0 : Int32) μ) ∧ ((¬ (μ.1 718 r0 j_1) ≤ (μ.1 717 r0 j_2)) → q (1 : Int32) μ)))) : pt_X10_hasLaw_0 l D d q Γ r0 x1 μ := by
  unfold pt_X10_hasLaw_0
  refine g_aload_n dX10_hasLaw_0 rfl ?_
  refine g_gfR fl_10_46 rfl hr0 dX10_hasLaw_1 ?_
  refine g_iload_n dX10_hasLaw_4 rfl ?_
  obtain ⟨j_1, hj_1, ej_1, h⟩ := h
  refine g_iald j_1 hr0 rfl hj_1 (by decide) ej_1 dX10_hasLaw_5 ?_
  refine g_aload_n dX10_hasLaw_6 rfl ?_
  refine g_gfR fl_10_43 rfl hr0 dX10_hasLaw_7 ?_
  refine g_iload_n dX10_hasLaw_10 rfl ?_
  obtain ⟨j_2, hj_2, ej_2, h⟩ := h
  refine g_iald j_2 hr0 rfl hj_2 (by decide) ej_2 dX10_hasLaw_11 ?_
  refine g_icmp_le (tgt := 19) dX10_hasLaw_12 (by decide) (fun c_3 => ?_) (fun c_3 => ?_)
  · have h := h.1 c_3
    refine g_iconst (0 : Int32) dX10_hasLaw_19 rfl ?_
    exact g_iret dX10_hasLaw_20 rfl rfl ⟨_, rfl, h⟩
  · have h := h.2 c_3
    refine g_iconst (1 : Int32) dX10_hasLaw_15 rfl ?_
    refine g_goto (tgt := 20) dX10_hasLaw_16 (by decide) ?_
    exact g_iret dX10_hasLaw_20 rfl rfl ⟨_, rfl, h⟩
theorem en_X10_hasLaw {l : Launch} {D : gD} {d : Nat} {q : Int32 → gMem → Prop} {r0 : Nat} {x1 : Int32} {μ : gMem} (h : ∀ Γ : gC, pt_X10_hasLaw_0 l D d q Γ r0 x1 μ) : Ctr l D d yX10_hasLaw cX10_hasLaw 2 (some .boolean) [.ref (D.2.2 10 r0), .int x1] μ (pI q) :=
  Ctr_of rfl (by decide) (Nat.le_of_ble_eq_true rfl) (fun Γ => g_sub [0, 1] rfl (h Γ))
