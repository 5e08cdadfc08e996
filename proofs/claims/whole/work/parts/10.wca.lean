def pt_X8_start_0 (l : Launch) (D : gD) (d : Nat) (q : gMem → Prop) (Γ : gC) (r0 : Nat) (r1 : Nat) (μ : gMem) : Prop := G l D RX8 cX8_start 3 none d (pV q) Γ 0 [(0, .ref (D.2.2 8 r0)), (1, .ref (D.2.2 7 r1))] [] μ
def pt_X8_start_1 (l : Launch) (D : gD) (d : Nat) (q : gMem → Prop) (Γ : gC) (r0 : Nat) (r1 : Nat) (x2 : Int32) (μ : gMem) : Prop := G l D RX8 cX8_start 3 none d (pV q) Γ 2 [(0, .ref (D.2.2 8 r0)), (1, .ref (D.2.2 7 r1)), (2, .int x2)] [] μ
set_option maxRecDepth 20000 in
set_option maxHeartbeats 4000000 in
theorem bl_X8_start_0 {l : Launch} {D : gD} {d : Nat} {q : gMem → Prop} {Γ : gC} {r0 : Nat} {r1 : Nat} {μ : gMem} (hr0 : r0 < 3) (hr1 : r1 < 2) (h : ∀ x2_1 : Int32, x2_1 = (0 : Int32) → pt_X8_start_1 l D d q Γ r0 r1 x2_1 μ) : pt_X8_start_0 l D d q Γ r0 r1 μ := by
  unfold pt_X8_start_0
  refine g_iconst (0 : Int32) dX8_start_0 rfl ?_
  refine g_istore_n dX8_start_1 (by decide) (fun x2_1 ex2_1 => g_sub (lv' := [(0, .ref (D.2.2 8 r0)), (1, .ref (D.2.2 7 r1)), (2, .int x2_1)]) [1, 2, 0] rfl ?_)
  have h := h x2_1 ex2_1
  exact g_sub [0, 1, 2] rfl h
set_option maxRecDepth 20000 in
set_option maxHeartbeats 4000000 in
theorem bl_X8_start_1 {l : Launch} {D : gD} {d : Nat} {q : gMem → Prop} {Γ : gC} {r0 : Nat} {r1 : Nat} {x2 : Int32} {μ : gMem} (hr0 : r0 < 3) (hr1 : r1 < 2) (h : (((5 : Int32) ≤ x2) → ∀ μ_2 : gMem, μ_2 = gsI μ 8 r0 1 (0 : Int32) → ∀ μ_3 : gMem, μ_3 = gsI μ_2 8 r0 2 (0 : Int32) → ∀ μ_4 : gMem, μ_4 = gsL μ_3 8 r0 3 ((μ_3.1 7 r1 17).toInt64) → ∃ (d_5 : Nat) (q_6 : gMem → Prop), d_5 < d ∧ Ctr l D d_5 yX8_setPlain cX8_setPlain 1 none [.ref (D.2.2 8 r0)] μ_4 (pV q_6) ∧ ∀ (μ_9 : gMem), q_6 μ_9 → q μ_9) ∧ ((¬ (5 : Int32) ≤ x2) → ∃ j_12 : Nat, j_12 < 5 ∧ x2 = nI j_12 ∧ (∃ (d_14 : Nat) (q_15 : gMem → Prop), d_14 < d ∧ Ctr l D d_14 yX4_start cX4_start 3 none [.ref (D.2.2 4 (5 * r0 + j_12)), .ref (D.2.2 7 r1), .int x2] μ (pV q_15) ∧ ∀ (μ_18 : gMem), q_15 μ_18 → ∀ x2_21 : Int32, x2_21 = x2 + (1 : Int32) → pt_X8_start_1 l D d q Γ r0 r1 x2_21 μ_18))) : pt_X8_start_1 l D d q Γ r0 r1 x2 μ := by
  unfold pt_X8_start_1
  refine g_iload_n dX8_start_2 rfl ?_
  refine g_iconst (5 : Int32) dX8_start_3 rfl ?_
  refine g_icmp_ge (tgt := 24) dX8_start_4 (by decide) (fun c_1 => ?_) (fun c_1 => ?_)
  · have h := h.1 c_1
    refine g_aload_n dX8_start_24 rfl ?_
    refine g_iconst (0 : Int32) dX8_start_25 rfl ?_
    refine g_pfI fi_8_32 hr0 rfl rfl dX8_start_26 ?_
    obtain ⟨μ_2, eμ_2⟩ : ∃ z : gMem, z = gsI μ 8 r0 1 (0 : Int32) := ⟨_, rfl⟩
    have h := h μ_2 eμ_2
    refine g_mem eμ_2.symm ?_
    refine g_aload_n dX8_start_29 rfl ?_
    refine g_iconst (0 : Int32) dX8_start_30 rfl ?_
    refine g_pfI fi_8_35 hr0 rfl rfl dX8_start_31 ?_
    obtain ⟨μ_3, eμ_3⟩ : ∃ z : gMem, z = gsI μ_2 8 r0 2 (0 : Int32) := ⟨_, rfl⟩
    have h := h μ_3 eμ_3
    refine g_mem eμ_3.symm ?_
    refine g_aload_n dX8_start_34 rfl ?_
    refine g_aload_n dX8_start_35 rfl ?_
    refine g_gfI fi_8_38 hr1 dX8_start_36 ?_
    refine g_i2l dX8_start_39 ?_
    refine g_pfJ fi_8_43 hr0 dX8_start_40 ?_
    obtain ⟨μ_4, eμ_4⟩ : ∃ z : gMem, z = gsL μ_3 8 r0 3 ((μ_3.1 7 r1 17).toInt64) := ⟨_, rfl⟩
    have h := h μ_4 eμ_4
    refine g_mem eμ_4.symm ?_
    refine g_aload_n dX8_start_43 rfl ?_
    obtain ⟨d_5, q_6, hd_7, hc_8, h⟩ := h
    refine g_cV ca_X8_47 ob_8 hc_8 hd_7 (by decide) hr0 rfl rfl (by first | exact Nat.le_of_ble_eq_true rfl | decide) dX8_start_44 (kV (fun μ_9 hq_11 => ?_))
    have h := h μ_9 hq_11
    exact g_vret dX8_start_47 rfl ⟨rfl, h⟩
  · have h := h.2 c_1
    refine g_aload_n dX8_start_7 rfl ?_
    refine g_gfR fl_8_11 rfl hr0 dX8_start_8 ?_
    refine g_iload_n dX8_start_11 rfl ?_
    obtain ⟨j_12, hj_12, ej_12, h⟩ := h
    refine g_aald j_12 hr0 hj_12 ej_12 dX8_start_12 ?_
    have hp_13 : 5 * r0 + j_12 < 15 := by have : r0 < 3 := hr0; omega
    refine g_aload_n dX8_start_13 rfl ?_
    refine g_iload_n dX8_start_14 rfl ?_
    obtain ⟨d_14, q_15, hd_16, hc_17, h⟩ := h
    refine g_cV ca_X8_28 ob_4 hc_17 hd_16 (by decide) hp_13 rfl rfl (by first | exact Nat.le_of_ble_eq_true rfl | decide) dX8_start_15 (kV (fun μ_18 hq_20 => ?_))
    have h := h μ_18 hq_20
    refine g_iinc dX8_start_18 rfl (by decide) (fun x2_21 ex2_21 => g_sub (lv' := [(0, .ref (D.2.2 8 r0)), (1, .ref (D.2.2 7 r1)), (2, .int x2_21)]) [1, 2, 0] rfl ?_)
    have h := h x2_21 ex2_21
    refine g_goto (tgt := 2) dX8_start_21 (by decide) ?_
    exact g_sub [0, 1, 2] rfl h
theorem en_X8_start {l : Launch} {D : gD} {d : Nat} {q : gMem → Prop} {r0 : Nat} {r1 : Nat} {μ : gMem} (h : ∀ Γ : gC, pt_X8_start_0 l D d q Γ r0 r1 μ) : Ctr l D d yX8_start cX8_start 3 none [.ref (D.2.2 8 r0), .ref (D.2.2 7 r1)] μ (pV q) :=
  Ctr_of rfl (by decide) (Nat.le_of_ble_eq_true rfl) (fun Γ => g_sub [0, 1] rfl (h Γ))
def pt_X8_copyFrom_0 (l : Launch) (D : gD) (d : Nat) (q : gMem → Prop) (Γ : gC) (r0 : Nat) (r1 : Nat) (μ : gMem) : Prop := G l D RX8 cX8_copyFrom 3 none d (pV q) Γ 0 [(0, .ref (D.2.2 8 r0)), (1, .ref (D.2.2 8 r1))] [] μ
def pt_X8_copyFrom_1 (l : Launch) (D : gD) (d : Nat) (q : gMem → Prop) (Γ : gC) (r0 : Nat) (r1 : Nat) (x2 : Int32) (μ : gMem) : Prop := G l D RX8 cX8_copyFrom 3 none d (pV q) Γ 2 [(0, .ref (D.2.2 8 r0)), (1, .ref (D.2.2 8 r1)), (2, .int x2)] [] μ
set_option maxRecDepth 20000 in
set_option maxHeartbeats 4000000 in
theorem bl_X8_copyFrom_0 {l : Launch} {D : gD} {d : Nat} {q : gMem → Prop} {Γ : gC} {r0 : Nat} {r1 : Nat} {μ : gMem} (hr0 : r0 < 3) (hr1 : r1 < 3) (h : ∀ x2_1 : Int32, x2_1 = (0 : Int32) → pt_X8_copyFrom_1 l D d q Γ r0 r1 x2_1 μ) : pt_X8_copyFrom_0 l D d q Γ r0 r1 μ := by
  unfold pt_X8_copyFrom_0
  refine g_iconst (0 : Int32) dX8_copyFrom_0 rfl ?_
  refine g_istore_n dX8_copyFrom_1 (by decide) (fun x2_1 ex2_1 => g_sub (lv' := [(0, .ref (D.2.2 8 r0)), (1, .ref (D.2.2 8 r1)), (2, .int x2_1)]) [1, 2, 0] rfl ?_)
  have h := h x2_1 ex2_1
  exact g_sub [0, 1, 2] rfl h
set_option maxRecDepth 20000 in
set_option maxHeartbeats 4000000 in
theorem bl_X8_copyFrom_1 {l : Launch} {D : gD} {d : Nat} {q : gMem → Prop} {Γ : gC} {r0 : Nat} {r1 : Nat} {x2 : Int32} {μ : gMem} (hr0 : r0 < 3) (hr1 : r1 < 3) (h : (((5 : Int32) ≤ x2) → ∀ μ_2 : gMem, μ_2 = gsI μ 8 r0 1 (μ.1 8 r1 1) → ∀ μ_3 : gMem, μ_3 = gsI μ_2 8 r0 2 (μ_2.1 8 r1 2) → ∀ μ_4 : gMem, μ_4 = gsL μ_3 8 r0 3 (μ_3.2.1 8 r1 3) → ∃ (d_5 : Nat) (q_6 : gMem → Prop), d_5 < d ∧ Ctr l D d_5 yX8_setPlain cX8_setPlain 1 none [.ref (D.2.2 8 r0)] μ_4 (pV q_6) ∧ ∀ (μ_9 : gMem), q_6 μ_9 → q μ_9) ∧ ((¬ (5 : Int32) ≤ x2) → ∃ j_12 : Nat, j_12 < 5 ∧ x2 = nI j_12 ∧ (∃ j_14 : Nat, j_14 < 5 ∧ x2 = nI j_14 ∧ (∃ (d_16 : Nat) (q_17 : gMem → Prop), d_16 < d ∧ Ctr l D d_16 yX4_copyFrom cX4_copyFrom 2 none [.ref (D.2.2 4 (5 * r0 + j_12)), .ref (D.2.2 4 (5 * r1 + j_14))] μ (pV q_17) ∧ ∀ (μ_20 : gMem), q_17 μ_20 → ∀ x2_23 : Int32, x2_23 = x2 + (1 : Int32) → pt_X8_copyFrom_1 l D d q Γ r0 r1 x2_23 μ_20)))) : pt_X8_copyFrom_1 l D d q Γ r0 r1 x2 μ := by
  unfold pt_X8_copyFrom_1
  refine g_iload_n dX8_copyFrom_2 rfl ?_
  refine g_iconst (5 : Int32) dX8_copyFrom_3 rfl ?_
  refine g_icmp_ge (tgt := 28) dX8_copyFrom_4 (by decide) (fun c_1 => ?_) (fun c_1 => ?_)
  · have h := h.1 c_1
    refine g_aload_n dX8_copyFrom_28 rfl ?_
    refine g_aload_n dX8_copyFrom_29 rfl ?_
    refine g_gfI fi_8_32 hr1 dX8_copyFrom_30 ?_
    refine g_pfI fi_8_32 hr0 rfl rfl dX8_copyFrom_33 ?_
    obtain ⟨μ_2, eμ_2⟩ : ∃ z : gMem, z = gsI μ 8 r0 1 (μ.1 8 r1 1) := ⟨_, rfl⟩
    have h := h μ_2 eμ_2
    refine g_mem eμ_2.symm ?_
    refine g_aload_n dX8_copyFrom_36 rfl ?_
    refine g_aload_n dX8_copyFrom_37 rfl ?_
    refine g_gfI fi_8_35 hr1 dX8_copyFrom_38 ?_
    refine g_pfI fi_8_35 hr0 rfl rfl dX8_copyFrom_41 ?_
    obtain ⟨μ_3, eμ_3⟩ : ∃ z : gMem, z = gsI μ_2 8 r0 2 (μ_2.1 8 r1 2) := ⟨_, rfl⟩
    have h := h μ_3 eμ_3
    refine g_mem eμ_3.symm ?_
    refine g_aload_n dX8_copyFrom_44 rfl ?_
    refine g_aload_n dX8_copyFrom_45 rfl ?_
    refine g_gfJ fi_8_43 hr1 dX8_copyFrom_46 ?_
    refine g_pfJ fi_8_43 hr0 dX8_copyFrom_49 ?_
    obtain ⟨μ_4, eμ_4⟩ : ∃ z : gMem, z = gsL μ_3 8 r0 3 (μ_3.2.1 8 r1 3) := ⟨_, rfl⟩
    have h := h μ_4 eμ_4
    refine g_mem eμ_4.symm ?_
    refine g_aload_n dX8_copyFrom_52 rfl ?_
    obtain ⟨d_5, q_6, hd_7, hc_8, h⟩ := h
    refine g_cV ca_X8_47 ob_8 hc_8 hd_7 (by decide) hr0 rfl rfl (by first | exact Nat.le_of_ble_eq_true rfl | decide) dX8_copyFrom_53 (kV (fun μ_9 hq_11 => ?_))
    have h := h μ_9 hq_11
    exact g_vret dX8_copyFrom_56 rfl ⟨rfl, h⟩
  · have h := h.2 c_1
    refine g_aload_n dX8_copyFrom_7 rfl ?_
    refine g_gfR fl_8_11 rfl hr0 dX8_copyFrom_8 ?_
    refine g_iload_n dX8_copyFrom_11 rfl ?_
    obtain ⟨j_12, hj_12, ej_12, h⟩ := h
    refine g_aald j_12 hr0 hj_12 ej_12 dX8_copyFrom_12 ?_
    have hp_13 : 5 * r0 + j_12 < 15 := by have : r0 < 3 := hr0; omega
    refine g_aload_n dX8_copyFrom_13 rfl ?_
    refine g_gfR fl_8_11 rfl hr1 dX8_copyFrom_14 ?_
    refine g_iload_n dX8_copyFrom_17 rfl ?_
    obtain ⟨j_14, hj_14, ej_14, h⟩ := h
    refine g_aald j_14 hr1 hj_14 ej_14 dX8_copyFrom_18 ?_
    have hp_15 : 5 * r1 + j_14 < 15 := by have : r1 < 3 := hr1; omega
    obtain ⟨d_16, q_17, hd_18, hc_19, h⟩ := h
    refine g_cV ca_X8_50 ob_4 hc_19 hd_18 (by decide) hp_13 rfl rfl (by first | exact Nat.le_of_ble_eq_true rfl | decide) dX8_copyFrom_19 (kV (fun μ_20 hq_22 => ?_))
    have h := h μ_20 hq_22
    refine g_iinc dX8_copyFrom_22 rfl (by decide) (fun x2_23 ex2_23 => g_sub (lv' := [(0, .ref (D.2.2 8 r0)), (1, .ref (D.2.2 8 r1)), (2, .int x2_23)]) [1, 2, 0] rfl ?_)
    have h := h x2_23 ex2_23
    refine g_goto (tgt := 2) dX8_copyFrom_25 (by decide) ?_
    exact g_sub [0, 1, 2] rfl h
theorem en_X8_copyFrom {l : Launch} {D : gD} {d : Nat} {q : gMem → Prop} {r0 : Nat} {r1 : Nat} {μ : gMem} (h : ∀ Γ : gC, pt_X8_copyFrom_0 l D d q Γ r0 r1 μ) : Ctr l D d yX8_copyFrom cX8_copyFrom 3 none [.ref (D.2.2 8 r0), .ref (D.2.2 8 r1)] μ (pV q) :=
  Ctr_of rfl (by decide) (Nat.le_of_ble_eq_true rfl) (fun Γ => g_sub [0, 1] rfl (h Γ))
def pt_X8_setPlain_0 (l : Launch) (D : gD) (d : Nat) (q : gMem → Prop) (Γ : gC) (r0 : Nat) (μ : gMem) : Prop := G l D RX8 cX8_setPlain 1 none d (pV q) Γ 0 [(0, .ref (D.2.2 8 r0))] [] μ
set_option maxRecDepth 20000 in
set_option maxHeartbeats 4000000 in
theorem bl_X8_setPlain_0 {l : Launch} {D : gD} {d : Nat} {q : gMem → Prop} {Γ : gC} {r0 : Nat} {μ : gMem} (hr0 : r0 < 3) (h : ∀ μ_1 : gMem, μ_1 = gsI μ 8 r0 4 (-1 : Int32) → ∀ μ_2 : gMem, μ_2 = gsI μ_1 8 r0 5 (-1 : Int32) → ∀ μ_3 : gMem, μ_3 = gsI μ_2 8 r0 6 (-1 : Int32) → ∀ μ_4 : gMem, μ_4 = gsI μ_3 8 r0 7 (0 : Int32) → q μ_4) : pt_X8_setPlain_0 l D d q Γ r0 μ := by
  unfold pt_X8_setPlain_0
  refine g_aload_n dX8_setPlain_0 rfl ?_
  refine g_iconst (-1 : Int32) dX8_setPlain_1 rfl ?_
  refine g_pfI fi_8_17 hr0 rfl rfl dX8_setPlain_2 ?_
  obtain ⟨μ_1, eμ_1⟩ : ∃ z : gMem, z = gsI μ 8 r0 4 (-1 : Int32) := ⟨_, rfl⟩
  have h := h μ_1 eμ_1
  refine g_mem eμ_1.symm ?_
  refine g_aload_n dX8_setPlain_5 rfl ?_
  refine g_iconst (-1 : Int32) dX8_setPlain_6 rfl ?_
  refine g_pfI fi_8_21 hr0 rfl rfl dX8_setPlain_7 ?_
  obtain ⟨μ_2, eμ_2⟩ : ∃ z : gMem, z = gsI μ_1 8 r0 5 (-1 : Int32) := ⟨_, rfl⟩
  have h := h μ_2 eμ_2
  refine g_mem eμ_2.symm ?_
  refine g_aload_n dX8_setPlain_10 rfl ?_
  refine g_iconst (-1 : Int32) dX8_setPlain_11 rfl ?_
  refine g_pfI fi_8_24 hr0 rfl rfl dX8_setPlain_12 ?_
  obtain ⟨μ_3, eμ_3⟩ : ∃ z : gMem, z = gsI μ_2 8 r0 6 (-1 : Int32) := ⟨_, rfl⟩
  have h := h μ_3 eμ_3
  refine g_mem eμ_3.symm ?_
  refine g_aload_n dX8_setPlain_15 rfl ?_
  refine g_iconst (0 : Int32) dX8_setPlain_16 rfl ?_
  refine g_pfI fi_8_54 hr0 rfl rfl dX8_setPlain_17 ?_
  obtain ⟨μ_4, eμ_4⟩ : ∃ z : gMem, z = gsI μ_3 8 r0 7 (0 : Int32) := ⟨_, rfl⟩
  have h := h μ_4 eμ_4
  refine g_mem eμ_4.symm ?_
  exact g_vret dX8_setPlain_20 rfl ⟨rfl, h⟩
theorem en_X8_setPlain {l : Launch} {D : gD} {d : Nat} {q : gMem → Prop} {r0 : Nat} {μ : gMem} (h : ∀ Γ : gC, pt_X8_setPlain_0 l D d q Γ r0 μ) : Ctr l D d yX8_setPlain cX8_setPlain 1 none [.ref (D.2.2 8 r0)] μ (pV q) :=
  Ctr_of rfl (by decide) (Nat.le_of_ble_eq_true rfl) (fun Γ => g_sub [0] rfl (h Γ))
def pt_X8_drawsWet_0 (l : Launch) (D : gD) (d : Nat) (q : Int32 → gMem → Prop) (Γ : gC) (r0 : Nat) (x1 : Int32) (μ : gMem) : Prop := G l D RX8 cX8_drawsWet 2 (some .boolean) d (pI q) Γ 0 [(0, .ref (D.2.2 8 r0)), (1, .int x1)] [] μ
set_option maxRecDepth 20000 in
set_option maxHeartbeats 4000000 in
theorem bl_X8_drawsWet_0 {l : Launch} {D : gD} {d : Nat} {q : Int32 → gMem → Prop} {Γ : gC} {r0 : Nat} {x1 : Int32} {μ : gMem} (hr0 : r0 < 3) (h : ((¬ x1 = 0) → ∀ μ_2 : gMem, μ_2 = gsL μ 8 r0 3 ((((μ.2.1 8 r0 3) * (1103515245 : Int64)) + (12345 : Int64)) &&& (2147483647 : Int64)) → ((0 ≤ (lg_cmp (((μ_2.2.1 8 r0 3) / (65536 : Int64)) - ((μ_2.2.1 8 r0 3) / (65536 : Int64)) / (100 : Int64) * (100 : Int64)) x1.toInt64)) → q (0 : Int32) μ_2) ∧ ((¬ 0 ≤ (lg_cmp (((μ_2.2.1 8 r0 3) / (65536 : Int64)) - ((μ_2.2.1 8 r0 3) / (65536 : Int64)) / (100 : Int64) * (100 : Int64)) x1.toInt64)) → q (1 : Int32) μ_2)) ∧ ((x1 = 0) → q (0 : Int32) μ)) : pt_X8_drawsWet_0 l D d q Γ r0 x1 μ := by
  unfold pt_X8_drawsWet_0
  refine g_iload_n dX8_drawsWet_0 rfl ?_
  refine g_if_ne (tgt := 6) dX8_drawsWet_1 (by decide) (fun c_1 => ?_) (fun c_1 => ?_)
  · have h := h.1 c_1
    refine g_aload_n dX8_drawsWet_6 rfl ?_
    refine g_aload_n dX8_drawsWet_7 rfl ?_
    refine g_gfJ fi_8_43 hr0 dX8_drawsWet_8 ?_
    refine g_ldc2 kc_X8_58 dX8_drawsWet_11 ?_
    refine g_lmul dX8_drawsWet_14 ?_
    refine g_ldc2 kc_X8_60 dX8_drawsWet_15 ?_
    refine g_ladd dX8_drawsWet_18 ?_
    refine g_ldc2 kc_X8_62 dX8_drawsWet_19 ?_
    refine g_land dX8_drawsWet_22 ?_
    refine g_pfJ fi_8_43 hr0 dX8_drawsWet_23 ?_
    obtain ⟨μ_2, eμ_2⟩ : ∃ z : gMem, z = gsL μ 8 r0 3 ((((μ.2.1 8 r0 3) * (1103515245 : Int64)) + (12345 : Int64)) &&& (2147483647 : Int64)) := ⟨_, rfl⟩
    have h := h μ_2 eμ_2
    refine g_mem eμ_2.symm ?_
    refine g_aload_n dX8_drawsWet_26 rfl ?_
    refine g_gfJ fi_8_43 hr0 dX8_drawsWet_27 ?_
    refine g_ldc2 kc_X8_64 dX8_drawsWet_30 ?_
    refine g_ldiv dX8_drawsWet_33 (by decide) ?_
    refine g_ldc2 kc_X8_66 dX8_drawsWet_34 ?_
    refine g_lrem dX8_drawsWet_37 (by decide) ?_
    refine g_iload_n dX8_drawsWet_38 rfl ?_
    refine g_i2l dX8_drawsWet_39 ?_
    refine g_lcmp dX8_drawsWet_40 ?_
    refine g_if_ge (tgt := 48) dX8_drawsWet_41 (by decide) (fun c_3 => ?_) (fun c_3 => ?_)
    · have h := h.1 c_3
      refine g_iconst (0 : Int32) dX8_drawsWet_48 rfl ?_
      exact g_iret dX8_drawsWet_49 rfl rfl ⟨_, rfl, h⟩
    · have h := h.2 c_3
      refine g_iconst (1 : Int32) dX8_drawsWet_44 rfl ?_
      refine g_goto (tgt := 49) dX8_drawsWet_45 (by decide) ?_
      exact g_iret dX8_drawsWet_49 rfl rfl ⟨_, rfl, h⟩
  · have h := h.2 c_1
    refine g_iconst (0 : Int32) dX8_drawsWet_4 rfl ?_
    exact g_iret dX8_drawsWet_5 rfl rfl ⟨_, rfl, h⟩
theorem en_X8_drawsWet {l : Launch} {D : gD} {d : Nat} {q : Int32 → gMem → Prop} {r0 : Nat} {x1 : Int32} {μ : gMem} (h : ∀ Γ : gC, pt_X8_drawsWet_0 l D d q Γ r0 x1 μ) : Ctr l D d yX8_drawsWet cX8_drawsWet 2 (some .boolean) [.ref (D.2.2 8 r0), .int x1] μ (pI q) :=
  Ctr_of rfl (by decide) (Nat.le_of_ble_eq_true rfl) (fun Γ => g_sub [0, 1] rfl (h Γ))
def pt_X8_passDay_0 (l : Launch) (D : gD) (d : Nat) (q : gMem → Prop) (Γ : gC) (r0 : Nat) (r1 : Nat) (x2 : Int32) (μ : gMem) : Prop := G l D RX8 cX8_passDay 4 none d (pV q) Γ 0 [(0, .ref (D.2.2 8 r0)), (1, .ref (D.2.2 7 r1)), (2, .int x2)] [] μ
def pt_X8_passDay_1 (l : Launch) (D : gD) (d : Nat) (q : gMem → Prop) (Γ : gC) (r0 : Nat) (r1 : Nat) (x2 : Int32) (x3 : Int32) (μ : gMem) : Prop := G l D RX8 cX8_passDay 4 none d (pV q) Γ 2 [(0, .ref (D.2.2 8 r0)), (1, .ref (D.2.2 7 r1)), (2, .int x2), (3, .int x3)] [] μ
def pt_X8_passDay_2 (l : Launch) (D : gD) (d : Nat) (q : gMem → Prop) (Γ : gC) (r0 : Nat) (r1 : Nat) (x2 : Int32) (x3 : Int32) (μ : gMem) : Prop := G l D RX8 cX8_passDay 4 none d (pV q) Γ 34 [(0, .ref (D.2.2 8 r0)), (1, .ref (D.2.2 7 r1)), (2, .int x2), (3, .int x3)] [] μ
def pt_X8_passDay_3 (l : Launch) (D : gD) (d : Nat) (q : gMem → Prop) (Γ : gC) (r0 : Nat) (r1 : Nat) (x2 : Int32) (x3 : Int32) (μ : gMem) : Prop := G l D RX8 cX8_passDay 4 none d (pV q) Γ 41 [(0, .ref (D.2.2 8 r0)), (1, .ref (D.2.2 7 r1)), (2, .int x2), (3, .int x3)] [] μ
def pt_X8_passDay_4 (l : Launch) (D : gD) (d : Nat) (q : gMem → Prop) (Γ : gC) (r0 : Nat) (r1 : Nat) (μ : gMem) : Prop := G l D RX8 cX8_passDay 4 none d (pV q) Γ 71 [(0, .ref (D.2.2 8 r0)), (1, .ref (D.2.2 7 r1))] [] μ
set_option maxRecDepth 20000 in
set_option maxHeartbeats 4000000 in
theorem bl_X8_passDay_0 {l : Launch} {D : gD} {d : Nat} {q : gMem → Prop} {Γ : gC} {r0 : Nat} {r1 : Nat} {x2 : Int32} {μ : gMem} (hr0 : r0 < 3) (hr1 : r1 < 2) (h : ∀ x3_1 : Int32, x3_1 = (0 : Int32) → pt_X8_passDay_1 l D d q Γ r0 r1 x2 x3_1 μ) : pt_X8_passDay_0 l D d q Γ r0 r1 x2 μ := by
  unfold pt_X8_passDay_0
  refine g_iconst (0 : Int32) dX8_passDay_0 rfl ?_
  refine g_istore_n dX8_passDay_1 (by decide) (fun x3_1 ex3_1 => g_sub (lv' := [(0, .ref (D.2.2 8 r0)), (1, .ref (D.2.2 7 r1)), (2, .int x2), (3, .int x3_1)]) [1, 2, 3, 0] rfl ?_)
  have h := h x3_1 ex3_1
  exact g_sub [0, 1, 2, 3] rfl h
set_option maxRecDepth 20000 in
set_option maxHeartbeats 4000000 in
theorem bl_X8_passDay_1 {l : Launch} {D : gD} {d : Nat} {q : gMem → Prop} {Γ : gC} {r0 : Nat} {r1 : Nat} {x2 : Int32} {x3 : Int32} {μ : gMem} (hr0 : r0 < 3) (hr1 : r1 < 2) (h : (((μ.1 7 r1 0) ≤ x3) → ∀ μ_2 : gMem, μ_2 = gsI μ 8 r0 1 ((μ.1 8 r0 1) + (1 : Int32)) → ((x2 = 0) → pt_X8_passDay_4 l D d q Γ r0 r1 μ_2) ∧ ((¬ x2 = 0) → ∀ μ_4 : gMem, μ_4 = gsI μ_2 8 r0 2 ((μ_2.1 8 r0 2) + (1 : Int32)) → pt_X8_passDay_4 l D d q Γ r0 r1 μ_4)) ∧ ((¬ (μ.1 7 r1 0) ≤ x3) → ((x3 = (μ.1 8 r0 5)) → pt_X8_passDay_3 l D d q Γ r0 r1 x2 x3 μ) ∧ ((¬ x3 = (μ.1 8 r0 5)) → (((μ.1 8 r0 6) = (-1 : Int32)) → pt_X8_passDay_2 l D d q Γ r0 r1 x2 x3 μ) ∧ ((¬ (μ.1 8 r0 6) = (-1 : Int32)) → ((¬ (μ.1 8 r0 6) = x3) → pt_X8_passDay_3 l D d q Γ r0 r1 x2 x3 μ) ∧ (((μ.1 8 r0 6) = x3) → pt_X8_passDay_2 l D d q Γ r0 r1 x2 x3 μ))))) : pt_X8_passDay_1 l D d q Γ r0 r1 x2 x3 μ := by
  unfold pt_X8_passDay_1
  refine g_iload_n dX8_passDay_2 rfl ?_
  refine g_aload_n dX8_passDay_3 rfl ?_
  refine g_gfI fi_8_68 hr1 dX8_passDay_4 ?_
  refine g_icmp_ge (tgt := 47) dX8_passDay_7 (by decide) (fun c_1 => ?_) (fun c_1 => ?_)
  · have h := h.1 c_1
    refine g_aload_n dX8_passDay_47 rfl ?_
    refine g_dup dX8_passDay_48 rfl ?_
    refine g_gfI fi_8_32 hr0 dX8_passDay_49 ?_
    refine g_iconst (1 : Int32) dX8_passDay_52 rfl ?_
    refine g_iadd dX8_passDay_53 ?_
    refine g_pfI fi_8_32 hr0 rfl rfl dX8_passDay_54 ?_
    obtain ⟨μ_2, eμ_2⟩ : ∃ z : gMem, z = gsI μ 8 r0 1 ((μ.1 8 r0 1) + (1 : Int32)) := ⟨_, rfl⟩
    have h := h μ_2 eμ_2
    refine g_mem eμ_2.symm ?_
    refine g_iload_n dX8_passDay_57 rfl ?_
    refine g_if_eq (tgt := 71) dX8_passDay_58 (by decide) (fun c_3 => ?_) (fun c_3 => ?_)
    · have h := h.1 c_3
      exact g_sub [0, 1] rfl h
    · have h := h.2 c_3
      refine g_aload_n dX8_passDay_61 rfl ?_
      refine g_dup dX8_passDay_62 rfl ?_
      refine g_gfI fi_8_35 hr0 dX8_passDay_63 ?_
      refine g_iconst (1 : Int32) dX8_passDay_66 rfl ?_
      refine g_iadd dX8_passDay_67 ?_
      refine g_pfI fi_8_35 hr0 rfl rfl dX8_passDay_68 ?_
      obtain ⟨μ_4, eμ_4⟩ : ∃ z : gMem, z = gsI μ_2 8 r0 2 ((μ_2.1 8 r0 2) + (1 : Int32)) := ⟨_, rfl⟩
      have h := h μ_4 eμ_4
      refine g_mem eμ_4.symm ?_
      exact g_sub [0, 1] rfl h
  · have h := h.2 c_1
    refine g_iload_n dX8_passDay_10 rfl ?_
    refine g_aload_n dX8_passDay_11 rfl ?_
    refine g_gfI fi_8_21 hr0 dX8_passDay_12 ?_
    refine g_icmp_eq (tgt := 41) dX8_passDay_15 (by decide) (fun c_5 => ?_) (fun c_5 => ?_)
    · have h := h.1 c_5
      exact g_sub [0, 1, 2, 3] rfl h
    · have h := h.2 c_5
      refine g_aload_n dX8_passDay_18 rfl ?_
      refine g_gfI fi_8_24 hr0 dX8_passDay_19 ?_
      refine g_iconst (-1 : Int32) dX8_passDay_22 rfl ?_
      refine g_icmp_eq (tgt := 34) dX8_passDay_23 (by decide) (fun c_6 => ?_) (fun c_6 => ?_)
      · have h := h.1 c_6
        exact g_sub [0, 1, 2, 3] rfl h
      · have h := h.2 c_6
        refine g_aload_n dX8_passDay_26 rfl ?_
        refine g_gfI fi_8_24 hr0 dX8_passDay_27 ?_
        refine g_iload_n dX8_passDay_30 rfl ?_
        refine g_icmp_ne (tgt := 41) dX8_passDay_31 (by decide) (fun c_7 => ?_) (fun c_7 => ?_)
        · have h := h.1 c_7
          exact g_sub [0, 1, 2, 3] rfl h
        · have h := h.2 c_7
          exact g_sub [0, 1, 2, 3] rfl h
set_option maxRecDepth 20000 in
set_option maxHeartbeats 4000000 in
theorem bl_X8_passDay_2 {l : Launch} {D : gD} {d : Nat} {q : gMem → Prop} {Γ : gC} {r0 : Nat} {r1 : Nat} {x2 : Int32} {x3 : Int32} {μ : gMem} (hr0 : r0 < 3) (hr1 : r1 < 2) (h : ∃ (d_1 : Nat) (q_2 : gMem → Prop), d_1 < d ∧ Ctr l D d_1 yX8_passPerson cX8_passPerson 10 none [.ref (D.2.2 8 r0), .ref (D.2.2 7 r1), .int x3, .int x2] μ (pV q_2) ∧ ∀ (μ_5 : gMem), q_2 μ_5 → pt_X8_passDay_3 l D d q Γ r0 r1 x2 x3 μ_5) : pt_X8_passDay_2 l D d q Γ r0 r1 x2 x3 μ := by
  unfold pt_X8_passDay_2
  refine g_aload_n dX8_passDay_34 rfl ?_
  refine g_aload_n dX8_passDay_35 rfl ?_
  refine g_iload_n dX8_passDay_36 rfl ?_
  refine g_iload_n dX8_passDay_37 rfl ?_
  obtain ⟨d_1, q_2, hd_3, hc_4, h⟩ := h
  refine g_cV ca_X8_71 ob_8 hc_4 hd_3 (by decide) hr0 rfl rfl (by first | exact Nat.le_of_ble_eq_true rfl | decide) dX8_passDay_38 (kV (fun μ_5 hq_7 => ?_))
  have h := h μ_5 hq_7
  exact g_sub [0, 1, 2, 3] rfl h
set_option maxRecDepth 20000 in
set_option maxHeartbeats 4000000 in
theorem bl_X8_passDay_3 {l : Launch} {D : gD} {d : Nat} {q : gMem → Prop} {Γ : gC} {r0 : Nat} {r1 : Nat} {x2 : Int32} {x3 : Int32} {μ : gMem} (hr0 : r0 < 3) (hr1 : r1 < 2) (h : ∀ x3_1 : Int32, x3_1 = x3 + (1 : Int32) → pt_X8_passDay_1 l D d q Γ r0 r1 x2 x3_1 μ) : pt_X8_passDay_3 l D d q Γ r0 r1 x2 x3 μ := by
  unfold pt_X8_passDay_3
  refine g_iinc dX8_passDay_41 rfl (by decide) (fun x3_1 ex3_1 => g_sub (lv' := [(0, .ref (D.2.2 8 r0)), (1, .ref (D.2.2 7 r1)), (2, .int x2), (3, .int x3_1)]) [1, 2, 3, 0] rfl ?_)
  have h := h x3_1 ex3_1
  refine g_goto (tgt := 2) dX8_passDay_44 (by decide) ?_
  exact g_sub [0, 1, 2, 3] rfl h
set_option maxRecDepth 20000 in
set_option maxHeartbeats 4000000 in
theorem bl_X8_passDay_4 {l : Launch} {D : gD} {d : Nat} {q : gMem → Prop} {Γ : gC} {r0 : Nat} {r1 : Nat} {μ : gMem} (hr0 : r0 < 3) (hr1 : r1 < 2) (h : (((μ.1 7 r1 13) ≤ 0) → q μ) ∧ ((¬ (μ.1 7 r1 13) ≤ 0) → (¬ μ.1 7 r1 13 = 0) ∧ (((¬ ((μ.1 8 r0 1) - (μ.1 8 r0 1) / (μ.1 7 r1 13) * (μ.1 7 r1 13)) = 0) → q μ) ∧ ((((μ.1 8 r0 1) - (μ.1 8 r0 1) / (μ.1 7 r1 13) * (μ.1 7 r1 13)) = 0) → ∃ (d_4 : Nat) (q_5 : gMem → Prop), d_4 < d ∧ Ctr l D d_4 yX8_givePot cX8_givePot 3 none [.ref (D.2.2 8 r0), .ref (D.2.2 7 r1)] μ (pV q_5) ∧ ∀ (μ_8 : gMem), q_5 μ_8 → q μ_8)))) : pt_X8_passDay_4 l D d q Γ r0 r1 μ := by
  unfold pt_X8_passDay_4
  refine g_aload_n dX8_passDay_71 rfl ?_
  refine g_gfI fi_8_75 hr1 dX8_passDay_72 ?_
  refine g_if_le (tgt := 95) dX8_passDay_75 (by decide) (fun c_1 => ?_) (fun c_1 => ?_)
  · have h := h.1 c_1
    exact g_vret dX8_passDay_95 rfl ⟨rfl, h⟩
  · have h := h.2 c_1
    refine g_aload_n dX8_passDay_78 rfl ?_
    refine g_gfI fi_8_32 hr0 dX8_passDay_79 ?_
    refine g_aload_n dX8_passDay_82 rfl ?_
    refine g_gfI fi_8_75 hr1 dX8_passDay_83 ?_
    obtain ⟨nz_2, h⟩ := h
    refine g_irem dX8_passDay_86 nz_2 ?_
    refine g_if_ne (tgt := 95) dX8_passDay_87 (by decide) (fun c_3 => ?_) (fun c_3 => ?_)
    · have h := h.1 c_3
      exact g_vret dX8_passDay_95 rfl ⟨rfl, h⟩
    · have h := h.2 c_3
      refine g_aload_n dX8_passDay_90 rfl ?_
      refine g_aload_n dX8_passDay_91 rfl ?_
      obtain ⟨d_4, q_5, hd_6, hc_7, h⟩ := h
      refine g_cV ca_X8_78 ob_8 hc_7 hd_6 (by decide) hr0 rfl rfl (by first | exact Nat.le_of_ble_eq_true rfl | decide) dX8_passDay_92 (kV (fun μ_8 hq_10 => ?_))
      have h := h μ_8 hq_10
      exact g_vret dX8_passDay_95 rfl ⟨rfl, h⟩
theorem en_X8_passDay {l : Launch} {D : gD} {d : Nat} {q : gMem → Prop} {r0 : Nat} {r1 : Nat} {x2 : Int32} {μ : gMem} (h : ∀ Γ : gC, pt_X8_passDay_0 l D d q Γ r0 r1 x2 μ) : Ctr l D d yX8_passDay cX8_passDay 4 none [.ref (D.2.2 8 r0), .ref (D.2.2 7 r1), .int x2] μ (pV q) :=
  Ctr_of rfl (by decide) (Nat.le_of_ble_eq_true rfl) (fun Γ => g_sub [0, 1, 2] rfl (h Γ))
def pt_X8_passPerson_0 (l : Launch) (D : gD) (d : Nat) (q : gMem → Prop) (Γ : gC) (r0 : Nat) (r1 : Nat) (x2 : Int32) (x3 : Int32) (μ : gMem) : Prop := G l D RX8 cX8_passPerson 10 none d (pV q) Γ 0 [(0, .ref (D.2.2 8 r0)), (1, .ref (D.2.2 7 r1)), (2, .int x2), (3, .int x3)] [] μ
def pt_X8_passPerson_1 (l : Launch) (D : gD) (d : Nat) (q : gMem → Prop) (Γ : gC) (r0 : Nat) (r1 : Nat) (x2 : Int32) (r4 : Nat) (xs0 : Int32) (μ : gMem) : Prop := G l D RX8 cX8_passPerson 10 none d (pV q) Γ 27 [(0, .ref (D.2.2 8 r0)), (1, .ref (D.2.2 7 r1)), (2, .int x2), (4, .ref (D.2.2 4 r4))] [.int xs0] μ
def pt_X8_passPerson_2 (l : Launch) (D : gD) (d : Nat) (q : gMem → Prop) (Γ : gC) (r0 : Nat) (r1 : Nat) (r4 : Nat) (x6 : Int32) (x7 : Int32) (μ : gMem) : Prop := G l D RX8 cX8_passPerson 10 none d (pV q) Γ 134 [(0, .ref (D.2.2 8 r0)), (1, .ref (D.2.2 7 r1)), (4, .ref (D.2.2 4 r4)), (6, .int x6), (7, .int x7)] [] μ
def pt_X8_passPerson_3 (l : Launch) (D : gD) (d : Nat) (q : gMem → Prop) (Γ : gC) (r0 : Nat) (r1 : Nat) (r4 : Nat) (x6 : Int32) (x7 : Int32) (xs0 : Int32) (μ : gMem) : Prop := G l D RX8 cX8_passPerson 10 none d (pV q) Γ 149 [(0, .ref (D.2.2 8 r0)), (1, .ref (D.2.2 7 r1)), (4, .ref (D.2.2 4 r4)), (6, .int x6), (7, .int x7)] [.int xs0] μ
def pt_X8_passPerson_4 (l : Launch) (D : gD) (d : Nat) (q : gMem → Prop) (Γ : gC) (r0 : Nat) (r1 : Nat) (r4 : Nat) (x6 : Int32) (x7 : Int32) (x8 : Int32) (x9 : Int32) (rs0 : Nat) (xs1 : Int32) (μ : gMem) : Prop := G l D RX8 cX8_passPerson 10 none d (pV q) Γ 173 [(0, .ref (D.2.2 8 r0)), (1, .ref (D.2.2 7 r1)), (4, .ref (D.2.2 4 r4)), (6, .int x6), (7, .int x7), (8, .int x8), (9, .int x9)] [.int xs1, .ref (D.2.2 4 rs0)] μ
def pt_X8_passPerson_5 (l : Launch) (D : gD) (d : Nat) (q : gMem → Prop) (Γ : gC) (r0 : Nat) (r1 : Nat) (r4 : Nat) (x6 : Int32) (x7 : Int32) (x9 : Int32) (μ : gMem) : Prop := G l D RX8 cX8_passPerson 10 none d (pV q) Γ 197 [(0, .ref (D.2.2 8 r0)), (1, .ref (D.2.2 7 r1)), (4, .ref (D.2.2 4 r4)), (6, .int x6), (7, .int x7), (9, .int x9)] [] μ
def pt_X8_passPerson_6 (l : Launch) (D : gD) (d : Nat) (q : gMem → Prop) (Γ : gC) (r0 : Nat) (r1 : Nat) (r4 : Nat) (x7 : Int32) (x9 : Int32) (μ : gMem) : Prop := G l D RX8 cX8_passPerson 10 none d (pV q) Γ 244 [(0, .ref (D.2.2 8 r0)), (1, .ref (D.2.2 7 r1)), (4, .ref (D.2.2 4 r4)), (7, .int x7), (9, .int x9)] [] μ
set_option maxRecDepth 20000 in
set_option maxHeartbeats 4000000 in
theorem bl_X8_passPerson_0 {l : Launch} {D : gD} {d : Nat} {q : gMem → Prop} {Γ : gC} {r0 : Nat} {r1 : Nat} {x2 : Int32} {x3 : Int32} {μ : gMem} (hr0 : r0 < 3) (hr1 : r1 < 2) (h : ∃ j_1 : Nat, j_1 < 5 ∧ x2 = nI j_1 ∧ (((x3 = 0) → pt_X8_passPerson_1 l D d q Γ r0 r1 x2 (5 * r0 + j_1) (μ.1 4 (5 * r0 + j_1) 1) μ) ∧ ((¬ x3 = 0) → pt_X8_passPerson_1 l D d q Γ r0 r1 x2 (5 * r0 + j_1) ((μ.1 4 (5 * r0 + j_1) 1) / (2 : Int32)) μ))) : pt_X8_passPerson_0 l D d q Γ r0 r1 x2 x3 μ := by
  unfold pt_X8_passPerson_0
  refine g_aload_n dX8_passPerson_0 rfl ?_
  refine g_gfR fl_8_11 rfl hr0 dX8_passPerson_1 ?_
  refine g_iload_n dX8_passPerson_4 rfl ?_
  obtain ⟨j_1, hj_1, ej_1, h⟩ := h
  refine g_aald j_1 hr0 hj_1 ej_1 dX8_passPerson_5 ?_
  have hp_2 : 5 * r0 + j_1 < 15 := by have : r0 < 3 := hr0; omega
  refine g_astore dX8_passPerson_6 (by decide) (g_sub (lv' := [(0, .ref (D.2.2 8 r0)), (1, .ref (D.2.2 7 r1)), (2, .int x2), (3, .int x3), (4, .ref (D.2.2 4 (5 * r0 + j_1)))]) [1, 2, 3, 4, 0] rfl ?_)
  refine g_iload_n dX8_passPerson_8 rfl ?_
  refine g_if_eq (tgt := 22) dX8_passPerson_9 (by decide) (fun c_3 => ?_) (fun c_3 => ?_)
  · have h := h.1 c_3
    refine g_aload dX8_passPerson_22 rfl ?_
    refine g_gfI fi_8_82 hp_2 dX8_passPerson_24 ?_
    exact g_sub [0, 1, 2, 4] rfl h
  · have h := h.2 c_3
    refine g_aload dX8_passPerson_12 rfl ?_
    refine g_gfI fi_8_82 hp_2 dX8_passPerson_14 ?_
    refine g_iconst (2 : Int32) dX8_passPerson_17 rfl ?_
    refine g_idiv dX8_passPerson_18 (by decide) ?_
    refine g_goto (tgt := 27) dX8_passPerson_19 (by decide) ?_
    exact g_sub [0, 1, 2, 4] rfl h
set_option maxRecDepth 20000 in
set_option maxHeartbeats 4000000 in
theorem bl_X8_passPerson_1 {l : Launch} {D : gD} {d : Nat} {q : gMem → Prop} {Γ : gC} {r0 : Nat} {r1 : Nat} {x2 : Int32} {r4 : Nat} {xs0 : Int32} {μ : gMem} (hr0 : r0 < 3) (hr1 : r1 < 2) (hr4 : r4 < 15) (h : ∀ x5_1 : Int32, x5_1 = xs0 → ∃ (d_2 : Nat) (q_3 : Int32 → gMem → Prop), d_2 < d ∧ Ctr l D d_2 yX7_inPlan cX7_inPlan 5 (some .int) [.ref (D.2.2 7 r1), .ref (D.2.2 519 r1), .ref (D.2.2 331 r4)] μ (pI q_3) ∧ ∀ (v_7 : Int32) (μ_6 : gMem), q_3 v_7 μ_6 → ∀ x6_9 : Int32, x6_9 = x5_1 + v_7 → ∃ (d_10 : Nat) (q_11 : Int32 → gMem → Prop), d_10 < d ∧ Ctr l D d_10 yX4_stepsOn cX4_stepsOn 3 (some .int) [.ref (D.2.2 4 r4), .int x5_1, .ref (D.2.2 7 r1)] μ_6 (pI q_11) ∧ ∀ (v_15 : Int32) (μ_14 : gMem), q_11 v_15 μ_14 → ∀ x7_17 : Int32, x7_17 = v_15 → (((μ_14.1 4 r4 0) ≤ x7_17) → pt_X8_passPerson_2 l D d q Γ r0 r1 r4 x6_9 x7_17 μ_14) ∧ ((¬ (μ_14.1 4 r4 0) ≤ x7_17) → (((μ_14.1 4 r4 10) = 0) → pt_X8_passPerson_2 l D d q Γ r0 r1 r4 x6_9 x7_17 μ_14) ∧ ((¬ (μ_14.1 4 r4 10) = 0) → ((¬ (μ_14.1 8 r0 7) = 0) → pt_X8_passPerson_2 l D d q Γ r0 r1 r4 x6_9 x7_17 μ_14) ∧ (((μ_14.1 8 r0 7) = 0) → ∃ j_21 : Nat, j_21 < 5 ∧ x2 = nI j_21 ∧ (∃ (d_22 : Nat) (q_23 : Int32 → gMem → Prop), d_22 < d ∧ Ctr l D d_22 yX8_ruled cX8_ruled 7 (some .int) [.ref (D.2.2 8 r0), .ref (D.2.2 2 r1), .int (0 : Int32), .ref (D.2.2 4 r4), .int x7_17, .int (99 : Int32), .int (μ_14.1 516 r1 j_21)] μ_14 (pI q_23) ∧ ∀ (v_27 : Int32) (μ_26 : gMem), q_23 v_27 μ_26 → ((v_27 < ((μ_14.1 4 r4 0) - x7_17)) → pt_X8_passPerson_2 l D d q Γ r0 r1 r4 x6_9 x7_17 μ_26) ∧ ((¬ v_27 < ((μ_14.1 4 r4 0) - x7_17)) → ∀ x6_30 : Int32, x6_30 = x6_9 + ((μ_26.1 4 r4 0) - x7_17) → ∀ x7_31 : Int32, x7_31 = μ_26.1 4 r4 0 → pt_X8_passPerson_2 l D d q Γ r0 r1 r4 x6_30 x7_31 μ_26)))))) : pt_X8_passPerson_1 l D d q Γ r0 r1 x2 r4 xs0 μ := by
  unfold pt_X8_passPerson_1
  refine g_istore dX8_passPerson_27 (by decide) (fun x5_1 ex5_1 => g_sub (lv' := [(0, .ref (D.2.2 8 r0)), (1, .ref (D.2.2 7 r1)), (2, .int x2), (4, .ref (D.2.2 4 r4)), (5, .int x5_1)]) [1, 2, 3, 4, 0] rfl ?_)
  have h := h x5_1 ex5_1
  refine g_iload dX8_passPerson_29 rfl ?_
  refine g_aload_n dX8_passPerson_31 rfl ?_
  refine g_aload_n dX8_passPerson_32 rfl ?_
  refine g_gfR fl_8_85 rfl hr1 dX8_passPerson_33 ?_
  refine g_aload dX8_passPerson_36 rfl ?_
  refine g_gfR fl_8_89 rfl hr4 dX8_passPerson_38 ?_
  obtain ⟨d_2, q_3, hd_4, hc_5, h⟩ := h
  refine g_cV ca_X8_92 ob_7 hc_5 hd_4 (by decide) hr1 rfl rfl (by first | exact Nat.le_of_ble_eq_true rfl | decide) dX8_passPerson_41 (kI (fun v_7 μ_6 hq_8 => ?_))
  have h := h v_7 μ_6 hq_8
  refine g_iadd dX8_passPerson_44 ?_
  refine g_istore dX8_passPerson_45 (by decide) (fun x6_9 ex6_9 => g_sub (lv' := [(0, .ref (D.2.2 8 r0)), (1, .ref (D.2.2 7 r1)), (2, .int x2), (4, .ref (D.2.2 4 r4)), (5, .int x5_1), (6, .int x6_9)]) [1, 2, 3, 4, 5, 0] rfl ?_)
  have h := h x6_9 ex6_9
  refine g_aload dX8_passPerson_47 rfl ?_
  refine g_iload dX8_passPerson_49 rfl ?_
  refine g_aload_n dX8_passPerson_51 rfl ?_
  obtain ⟨d_10, q_11, hd_12, hc_13, h⟩ := h
  refine g_cV ca_X8_96 ob_4 hc_13 hd_12 (by decide) hr4 rfl rfl (by first | exact Nat.le_of_ble_eq_true rfl | decide) dX8_passPerson_52 (kI (fun v_15 μ_14 hq_16 => ?_))
  have h := h v_15 μ_14 hq_16
  refine g_istore dX8_passPerson_55 (by decide) (fun x7_17 ex7_17 => g_sub (lv' := [(0, .ref (D.2.2 8 r0)), (1, .ref (D.2.2 7 r1)), (2, .int x2), (4, .ref (D.2.2 4 r4)), (6, .int x6_9), (7, .int x7_17)]) [1, 2, 3, 4, 6, 0] rfl ?_)
  have h := h x7_17 ex7_17
  refine g_iload dX8_passPerson_57 rfl ?_
  refine g_aload dX8_passPerson_59 rfl ?_
  refine g_gfI fi_8_100 hr4 dX8_passPerson_61 ?_
  refine g_icmp_ge (tgt := 134) dX8_passPerson_64 (by decide) (fun c_18 => ?_) (fun c_18 => ?_)
  · have h := h.1 c_18
    exact g_sub [0, 1, 3, 4, 5] rfl h
  · have h := h.2 c_18
    refine g_aload dX8_passPerson_67 rfl ?_
    refine g_gfI fi_8_103 hr4 dX8_passPerson_69 ?_
    refine g_if_eq (tgt := 134) dX8_passPerson_72 (by decide) (fun c_19 => ?_) (fun c_19 => ?_)
    · have h := h.1 c_19
      exact g_sub [0, 1, 3, 4, 5] rfl h
    · have h := h.2 c_19
      refine g_aload_n dX8_passPerson_75 rfl ?_
      refine g_gfI fi_8_54 hr0 dX8_passPerson_76 ?_
      refine g_if_ne (tgt := 134) dX8_passPerson_79 (by decide) (fun c_20 => ?_) (fun c_20 => ?_)
      · have h := h.1 c_20
        exact g_sub [0, 1, 3, 4, 5] rfl h
      · have h := h.2 c_20
        refine g_aload dX8_passPerson_82 rfl ?_
        refine g_gfI fi_8_100 hr4 dX8_passPerson_84 ?_
        refine g_iload dX8_passPerson_87 rfl ?_
        refine g_isub dX8_passPerson_89 ?_
        refine g_aload_n dX8_passPerson_90 rfl ?_
        refine g_aload_n dX8_passPerson_91 rfl ?_
        refine g_gfR fl_8_106 rfl hr1 dX8_passPerson_92 ?_
        refine g_iconst (0 : Int32) dX8_passPerson_95 rfl ?_
        refine g_aload dX8_passPerson_96 rfl ?_
        refine g_iload dX8_passPerson_98 rfl ?_
        refine g_bipush (99 : Int32) dX8_passPerson_100 rfl ?_
        refine g_aload_n dX8_passPerson_102 rfl ?_
        refine g_gfR fl_8_110 rfl hr1 dX8_passPerson_103 ?_
        refine g_iload_n dX8_passPerson_106 rfl ?_
        obtain ⟨j_21, hj_21, ej_21, h⟩ := h
        refine g_iald j_21 hr1 rfl hj_21 (by decide) ej_21 dX8_passPerson_107 ?_
        obtain ⟨d_22, q_23, hd_24, hc_25, h⟩ := h
        refine g_cV ca_X8_113 ob_8 hc_25 hd_24 (by decide) hr0 rfl rfl (by first | exact Nat.le_of_ble_eq_true rfl | decide) dX8_passPerson_108 (kI (fun v_27 μ_26 hq_28 => ?_))
        have h := h v_27 μ_26 hq_28
        refine g_icmp_gt (tgt := 134) dX8_passPerson_111 (by decide) (fun c_29 => ?_) (fun c_29 => ?_)
        · have h := h.1 c_29
          exact g_sub [0, 1, 3, 4, 5] rfl h
        · have h := h.2 c_29
          refine g_iload dX8_passPerson_114 rfl ?_
          refine g_aload dX8_passPerson_116 rfl ?_
          refine g_gfI fi_8_100 hr4 dX8_passPerson_118 ?_
          refine g_iload dX8_passPerson_121 rfl ?_
          refine g_isub dX8_passPerson_123 ?_
          refine g_iadd dX8_passPerson_124 ?_
          refine g_istore dX8_passPerson_125 (by decide) (fun x6_30 ex6_30 => g_sub (lv' := [(0, .ref (D.2.2 8 r0)), (1, .ref (D.2.2 7 r1)), (4, .ref (D.2.2 4 r4)), (6, .int x6_30)]) [1, 2, 4, 0] rfl ?_)
          have h := h x6_30 ex6_30
          refine g_aload dX8_passPerson_127 rfl ?_
          refine g_gfI fi_8_100 hr4 dX8_passPerson_129 ?_
          refine g_istore dX8_passPerson_132 (by decide) (fun x7_31 ex7_31 => g_sub (lv' := [(0, .ref (D.2.2 8 r0)), (1, .ref (D.2.2 7 r1)), (4, .ref (D.2.2 4 r4)), (6, .int x6_30), (7, .int x7_31)]) [1, 2, 3, 4, 0] rfl ?_)
          have h := h x7_31 ex7_31
          exact g_sub [0, 1, 2, 3, 4] rfl h
set_option maxRecDepth 20000 in
set_option maxHeartbeats 4000000 in
theorem bl_X8_passPerson_2 {l : Launch} {D : gD} {d : Nat} {q : gMem → Prop} {Γ : gC} {r0 : Nat} {r1 : Nat} {r4 : Nat} {x6 : Int32} {x7 : Int32} {μ : gMem} (hr0 : r0 < 3) (hr1 : r1 < 2) (hr4 : r4 < 15) (h : ((x7 < (μ.1 4 r4 0)) → pt_X8_passPerson_3 l D d q Γ r0 r1 r4 x6 x7 (0 : Int32) μ) ∧ ((¬ x7 < (μ.1 4 r4 0)) → pt_X8_passPerson_3 l D d q Γ r0 r1 r4 x6 x7 (1 : Int32) μ)) : pt_X8_passPerson_2 l D d q Γ r0 r1 r4 x6 x7 μ := by
  unfold pt_X8_passPerson_2
  refine g_iload dX8_passPerson_134 rfl ?_
  refine g_aload dX8_passPerson_136 rfl ?_
  refine g_gfI fi_8_100 hr4 dX8_passPerson_138 ?_
  refine g_icmp_lt (tgt := 148) dX8_passPerson_141 (by decide) (fun c_1 => ?_) (fun c_1 => ?_)
  · have h := h.1 c_1
    refine g_iconst (0 : Int32) dX8_passPerson_148 rfl ?_
    exact g_sub [0, 1, 2, 3, 4] rfl h
  · have h := h.2 c_1
    refine g_iconst (1 : Int32) dX8_passPerson_144 rfl ?_
    refine g_goto (tgt := 149) dX8_passPerson_145 (by decide) ?_
    exact g_sub [0, 1, 2, 3, 4] rfl h
set_option maxRecDepth 20000 in
set_option maxHeartbeats 4000000 in
theorem bl_X8_passPerson_3 {l : Launch} {D : gD} {d : Nat} {q : gMem → Prop} {Γ : gC} {r0 : Nat} {r1 : Nat} {r4 : Nat} {x6 : Int32} {x7 : Int32} {xs0 : Int32} {μ : gMem} (hr0 : r0 < 3) (hr1 : r1 < 2) (hr4 : r4 < 15) (h : ∀ x8_1 : Int32, x8_1 = xs0 → ∀ x9_2 : Int32, x9_2 = μ.1 4 r4 2 → ((x8_1 = 0) → pt_X8_passPerson_4 l D d q Γ r0 r1 r4 x6 x7 x8_1 x9_2 r4 (0 : Int32) μ) ∧ ((¬ x8_1 = 0) → pt_X8_passPerson_4 l D d q Γ r0 r1 r4 x6 x7 x8_1 x9_2 r4 (x9_2 + (1 : Int32)) μ)) : pt_X8_passPerson_3 l D d q Γ r0 r1 r4 x6 x7 xs0 μ := by
  unfold pt_X8_passPerson_3
  refine g_istore dX8_passPerson_149 (by decide) (fun x8_1 ex8_1 => g_sub (lv' := [(0, .ref (D.2.2 8 r0)), (1, .ref (D.2.2 7 r1)), (4, .ref (D.2.2 4 r4)), (6, .int x6), (7, .int x7), (8, .int x8_1)]) [1, 2, 3, 4, 5, 0] rfl ?_)
  have h := h x8_1 ex8_1
  refine g_aload dX8_passPerson_151 rfl ?_
  refine g_gfI fi_8_117 hr4 dX8_passPerson_153 ?_
  refine g_istore dX8_passPerson_156 (by decide) (fun x9_2 ex9_2 => g_sub (lv' := [(0, .ref (D.2.2 8 r0)), (1, .ref (D.2.2 7 r1)), (4, .ref (D.2.2 4 r4)), (6, .int x6), (7, .int x7), (8, .int x8_1), (9, .int x9_2)]) [1, 2, 3, 4, 5, 6, 0] rfl ?_)
  have h := h x9_2 ex9_2
  refine g_aload dX8_passPerson_158 rfl ?_
  refine g_iload dX8_passPerson_160 rfl ?_
  refine g_if_eq (tgt := 172) dX8_passPerson_162 (by decide) (fun c_3 => ?_) (fun c_3 => ?_)
  · have h := h.1 c_3
    refine g_iconst (0 : Int32) dX8_passPerson_172 rfl ?_
    exact g_sub [0, 1, 2, 3, 4, 5, 6] rfl h
  · have h := h.2 c_3
    refine g_iload dX8_passPerson_165 rfl ?_
    refine g_iconst (1 : Int32) dX8_passPerson_167 rfl ?_
    refine g_iadd dX8_passPerson_168 ?_
    refine g_goto (tgt := 173) dX8_passPerson_169 (by decide) ?_
    exact g_sub [0, 1, 2, 3, 4, 5, 6] rfl h
set_option maxRecDepth 20000 in
set_option maxHeartbeats 4000000 in
theorem bl_X8_passPerson_4 {l : Launch} {D : gD} {d : Nat} {q : gMem → Prop} {Γ : gC} {r0 : Nat} {r1 : Nat} {r4 : Nat} {x6 : Int32} {x7 : Int32} {x8 : Int32} {x9 : Int32} {rs0 : Nat} {xs1 : Int32} {μ : gMem} (hr0 : r0 < 3) (hr1 : r1 < 2) (hr4 : r4 < 15) (hrs0 : rs0 < 15) (h : ∀ μ_1 : gMem, μ_1 = gsI μ 4 rs0 2 xs1 → ((¬ x8 = 0) → pt_X8_passPerson_5 l D d q Γ r0 r1 r4 x6 x7 x9 μ_1) ∧ ((x8 = 0) → ((x9 ≤ 0) → pt_X8_passPerson_5 l D d q Γ r0 r1 r4 x6 x7 x9 μ_1) ∧ ((¬ x9 ≤ 0) → ∀ μ_4 : gMem, μ_4 = gsI μ_1 4 r4 3 ((μ_1.1 4 r4 3) + (1 : Int32)) → pt_X8_passPerson_5 l D d q Γ r0 r1 r4 x6 x7 x9 μ_4))) : pt_X8_passPerson_4 l D d q Γ r0 r1 r4 x6 x7 x8 x9 rs0 xs1 μ := by
  unfold pt_X8_passPerson_4
  refine g_pfI fi_8_117 hrs0 rfl rfl dX8_passPerson_173 ?_
  obtain ⟨μ_1, eμ_1⟩ : ∃ z : gMem, z = gsI μ 4 rs0 2 xs1 := ⟨_, rfl⟩
  have h := h μ_1 eμ_1
  refine g_mem eμ_1.symm ?_
  refine g_iload dX8_passPerson_176 rfl ?_
  refine g_if_ne (tgt := 197) dX8_passPerson_178 (by decide) (fun c_2 => ?_) (fun c_2 => ?_)
  · have h := h.1 c_2
    exact g_sub [0, 1, 2, 3, 4, 6] rfl h
  · have h := h.2 c_2
    refine g_iload dX8_passPerson_181 rfl ?_
    refine g_if_le (tgt := 197) dX8_passPerson_183 (by decide) (fun c_3 => ?_) (fun c_3 => ?_)
    · have h := h.1 c_3
      exact g_sub [0, 1, 2, 3, 4, 6] rfl h
    · have h := h.2 c_3
      refine g_aload dX8_passPerson_186 rfl ?_
      refine g_dup dX8_passPerson_188 rfl ?_
      refine g_gfI fi_8_120 hr4 dX8_passPerson_189 ?_
      refine g_iconst (1 : Int32) dX8_passPerson_192 rfl ?_
      refine g_iadd dX8_passPerson_193 ?_
      refine g_pfI fi_8_120 hr4 rfl rfl dX8_passPerson_194 ?_
      obtain ⟨μ_4, eμ_4⟩ : ∃ z : gMem, z = gsI μ_1 4 r4 3 ((μ_1.1 4 r4 3) + (1 : Int32)) := ⟨_, rfl⟩
      have h := h μ_4 eμ_4
      refine g_mem eμ_4.symm ?_
      exact g_sub [0, 1, 2, 3, 4, 6] rfl h
set_option maxRecDepth 20000 in
set_option maxHeartbeats 4000000 in
theorem bl_X8_passPerson_5 {l : Launch} {D : gD} {d : Nat} {q : gMem → Prop} {Γ : gC} {r0 : Nat} {r1 : Nat} {r4 : Nat} {x6 : Int32} {x7 : Int32} {x9 : Int32} {μ : gMem} (hr0 : r0 < 3) (hr1 : r1 < 2) (hr4 : r4 < 15) (h : ∀ μ_1 : gMem, μ_1 = gsI μ 4 r4 5 ((μ.1 4 r4 5) + x6) → ∀ μ_2 : gMem, μ_2 = gsI μ_1 4 r4 6 ((μ_1.1 4 r4 6) + x7) → ((x7 < (μ_2.1 7 r1 15)) → pt_X8_passPerson_6 l D d q Γ r0 r1 r4 x7 x9 μ_2) ∧ ((¬ x7 < (μ_2.1 7 r1 15)) → ∀ μ_4 : gMem, μ_4 = gsI μ_2 4 r4 7 ((μ_2.1 4 r4 7) + (μ_2.1 7 r1 14)) → pt_X8_passPerson_6 l D d q Γ r0 r1 r4 x7 x9 μ_4)) : pt_X8_passPerson_5 l D d q Γ r0 r1 r4 x6 x7 x9 μ := by
  unfold pt_X8_passPerson_5
  refine g_aload dX8_passPerson_197 rfl ?_
  refine g_dup dX8_passPerson_199 rfl ?_
  refine g_gfI fi_8_123 hr4 dX8_passPerson_200 ?_
  refine g_iload dX8_passPerson_203 rfl ?_
  refine g_iadd dX8_passPerson_205 ?_
  refine g_pfI fi_8_123 hr4 rfl rfl dX8_passPerson_206 ?_
  obtain ⟨μ_1, eμ_1⟩ : ∃ z : gMem, z = gsI μ 4 r4 5 ((μ.1 4 r4 5) + x6) := ⟨_, rfl⟩
  have h := h μ_1 eμ_1
  refine g_mem eμ_1.symm ?_
  refine g_aload dX8_passPerson_209 rfl ?_
  refine g_dup dX8_passPerson_211 rfl ?_
  refine g_gfI fi_8_126 hr4 dX8_passPerson_212 ?_
  refine g_iload dX8_passPerson_215 rfl ?_
  refine g_iadd dX8_passPerson_217 ?_
  refine g_pfI fi_8_126 hr4 rfl rfl dX8_passPerson_218 ?_
  obtain ⟨μ_2, eμ_2⟩ : ∃ z : gMem, z = gsI μ_1 4 r4 6 ((μ_1.1 4 r4 6) + x7) := ⟨_, rfl⟩
  have h := h μ_2 eμ_2
  refine g_mem eμ_2.symm ?_
  refine g_iload dX8_passPerson_221 rfl ?_
  refine g_aload_n dX8_passPerson_223 rfl ?_
  refine g_gfI fi_8_129 hr1 dX8_passPerson_224 ?_
  refine g_icmp_lt (tgt := 244) dX8_passPerson_227 (by decide) (fun c_3 => ?_) (fun c_3 => ?_)
  · have h := h.1 c_3
    exact g_sub [0, 1, 2, 4, 5] rfl h
  · have h := h.2 c_3
    refine g_aload dX8_passPerson_230 rfl ?_
    refine g_dup dX8_passPerson_232 rfl ?_
    refine g_gfI fi_8_132 hr4 dX8_passPerson_233 ?_
    refine g_aload_n dX8_passPerson_236 rfl ?_
    refine g_gfI fi_8_135 hr1 dX8_passPerson_237 ?_
    refine g_iadd dX8_passPerson_240 ?_
    refine g_pfI fi_8_132 hr4 rfl rfl dX8_passPerson_241 ?_
    obtain ⟨μ_4, eμ_4⟩ : ∃ z : gMem, z = gsI μ_2 4 r4 7 ((μ_2.1 4 r4 7) + (μ_2.1 7 r1 14)) := ⟨_, rfl⟩
    have h := h μ_4 eμ_4
    refine g_mem eμ_4.symm ?_
    exact g_sub [0, 1, 2, 4, 5] rfl h
set_option maxRecDepth 20000 in
set_option maxHeartbeats 4000000 in
theorem bl_X8_passPerson_6 {l : Launch} {D : gD} {d : Nat} {q : gMem → Prop} {Γ : gC} {r0 : Nat} {r1 : Nat} {r4 : Nat} {x7 : Int32} {x9 : Int32} {μ : gMem} (hr0 : r0 < 3) (hr1 : r1 < 2) (hr4 : r4 < 15) (h : (0 < d) ∧ (∃ (d_2 : Nat) (q_3 : Int32 → gMem → Prop), d_2 < d ∧ Ctr l D d_2 yX8_ruled cX8_ruled 7 (some .int) [.ref (D.2.2 8 r0), .ref (D.2.2 2 r1), .int (2 : Int32), .ref (D.2.2 4 r4), .int x7, .int (999 : Int32), .int (imin x7 (999 : Int32))] μ (pI q_3) ∧ ∀ (v_7 : Int32) (μ_6 : gMem), q_3 v_7 μ_6 → ∀ μ_9 : gMem, μ_9 = gsI μ_6 4 r4 4 ((μ.1 4 r4 4) + v_7) → ∃ (d_10 : Nat) (q_11 : Int32 → gMem → Prop), d_10 < d ∧ Ctr l D d_10 yX8_habitOf cX8_habitOf 2 (some .int) [.ref (D.2.2 4 r4), .int x9] μ_9 (pI q_11) ∧ ∀ (v_15 : Int32) (μ_14 : gMem), q_11 v_15 μ_14 → ∃ (d_17 : Nat) (q_18 : Int32 → gMem → Prop), d_17 < d ∧ Ctr l D d_17 yX8_ruled cX8_ruled 7 (some .int) [.ref (D.2.2 8 r0), .ref (D.2.2 2 r1), .int (1 : Int32), .ref (D.2.2 4 r4), .int x7, .int (99 : Int32), .int v_15] μ_14 (pI q_18) ∧ ∀ (v_22 : Int32) (μ_21 : gMem), q_18 v_22 μ_21 → ∀ μ_24 : gMem, μ_24 = gsI μ_21 4 r4 1 v_22 → ∀ μ_25 : gMem, μ_25 = gsI μ_24 4 r4 9 (0 : Int32) → q μ_25)) : pt_X8_passPerson_6 l D d q Γ r0 r1 r4 x7 x9 μ := by
  unfold pt_X8_passPerson_6
  refine g_aload dX8_passPerson_244 rfl ?_
  refine g_dup dX8_passPerson_246 rfl ?_
  refine g_gfI fi_8_136 hr4 dX8_passPerson_247 ?_
  refine g_aload_n dX8_passPerson_250 rfl ?_
  refine g_aload_n dX8_passPerson_251 rfl ?_
  refine g_gfR fl_8_106 rfl hr1 dX8_passPerson_252 ?_
  refine g_iconst (2 : Int32) dX8_passPerson_255 rfl ?_
  refine g_aload dX8_passPerson_256 rfl ?_
  refine g_iload dX8_passPerson_258 rfl ?_
  refine g_sipush (999 : Int32) dX8_passPerson_260 rfl ?_
  refine g_iload dX8_passPerson_263 rfl ?_
  refine g_sipush (999 : Int32) dX8_passPerson_265 rfl ?_
  obtain ⟨hd_1, h⟩ := h
  refine g_mmin hd_1 mk_X8_139 (by first | exact Nat.le_of_ble_eq_true rfl | decide) dX8_passPerson_268 ?_
  obtain ⟨d_2, q_3, hd_4, hc_5, h⟩ := h
  refine g_cV ca_X8_113 ob_8 hc_5 hd_4 (by decide) hr0 rfl rfl (by first | exact Nat.le_of_ble_eq_true rfl | decide) dX8_passPerson_271 (kI (fun v_7 μ_6 hq_8 => ?_))
  have h := h v_7 μ_6 hq_8
  refine g_iadd dX8_passPerson_274 ?_
  refine g_pfI fi_8_136 hr4 rfl rfl dX8_passPerson_275 ?_
  obtain ⟨μ_9, eμ_9⟩ : ∃ z : gMem, z = gsI μ_6 4 r4 4 ((μ.1 4 r4 4) + v_7) := ⟨_, rfl⟩
  have h := h μ_9 eμ_9
  refine g_mem eμ_9.symm ?_
  refine g_aload dX8_passPerson_278 rfl ?_
  refine g_aload_n dX8_passPerson_280 rfl ?_
  refine g_aload_n dX8_passPerson_281 rfl ?_
  refine g_gfR fl_8_106 rfl hr1 dX8_passPerson_282 ?_
  refine g_iconst (1 : Int32) dX8_passPerson_285 rfl ?_
  refine g_aload dX8_passPerson_286 rfl ?_
  refine g_iload dX8_passPerson_288 rfl ?_
  refine g_bipush (99 : Int32) dX8_passPerson_290 rfl ?_
  refine g_aload dX8_passPerson_292 rfl ?_
  refine g_iload dX8_passPerson_294 rfl ?_
  obtain ⟨d_10, q_11, hd_12, hc_13, h⟩ := h
  refine g_callS ca_X8_145 hc_13 hd_12 (by decide) rfl rfl (by first | exact Nat.le_of_ble_eq_true rfl | decide) dX8_passPerson_296 (kI (fun v_15 μ_14 hq_16 => ?_))
  have h := h v_15 μ_14 hq_16
  obtain ⟨d_17, q_18, hd_19, hc_20, h⟩ := h
  refine g_cV ca_X8_113 ob_8 hc_20 hd_19 (by decide) hr0 rfl rfl (by first | exact Nat.le_of_ble_eq_true rfl | decide) dX8_passPerson_299 (kI (fun v_22 μ_21 hq_23 => ?_))
  have h := h v_22 μ_21 hq_23
  refine g_pfI fi_8_82 hr4 rfl rfl dX8_passPerson_302 ?_
  obtain ⟨μ_24, eμ_24⟩ : ∃ z : gMem, z = gsI μ_21 4 r4 1 v_22 := ⟨_, rfl⟩
  have h := h μ_24 eμ_24
  refine g_mem eμ_24.symm ?_
  refine g_aload dX8_passPerson_305 rfl ?_
  refine g_iconst (0 : Int32) dX8_passPerson_307 rfl ?_
  refine g_pfI fi_8_149 hr4 rfl rfl dX8_passPerson_308 ?_
  obtain ⟨μ_25, eμ_25⟩ : ∃ z : gMem, z = gsI μ_24 4 r4 9 (0 : Int32) := ⟨_, rfl⟩
  have h := h μ_25 eμ_25
  refine g_mem eμ_25.symm ?_
  exact g_vret dX8_passPerson_311 rfl ⟨rfl, h⟩
theorem en_X8_passPerson {l : Launch} {D : gD} {d : Nat} {q : gMem → Prop} {r0 : Nat} {r1 : Nat} {x2 : Int32} {x3 : Int32} {μ : gMem} (h : ∀ Γ : gC, pt_X8_passPerson_0 l D d q Γ r0 r1 x2 x3 μ) : Ctr l D d yX8_passPerson cX8_passPerson 10 none [.ref (D.2.2 8 r0), .ref (D.2.2 7 r1), .int x2, .int x3] μ (pV q) :=
  Ctr_of rfl (by decide) (Nat.le_of_ble_eq_true rfl) (fun Γ => g_sub [0, 1, 2, 3] rfl (h Γ))
def pt_X8_habitOf_0 (l : Launch) (D : gD) (d : Nat) (q : Int32 → gMem → Prop) (Γ : gC) (r0 : Nat) (x1 : Int32) (μ : gMem) : Prop := G l D RX8 cX8_habitOf 2 (some .int) d (pI q) Γ 0 [(0, .ref (D.2.2 4 r0)), (1, .int x1)] [] μ
def pt_X8_habitOf_1 (l : Launch) (D : gD) (d : Nat) (q : Int32 → gMem → Prop) (Γ : gC) (r0 : Nat) (x1 : Int32) (μ : gMem) : Prop := G l D RX8 cX8_habitOf 2 (some .int) d (pI q) Γ 29 [(0, .ref (D.2.2 4 r0)), (1, .int x1)] [] μ
def pt_X8_habitOf_2 (l : Launch) (D : gD) (d : Nat) (q : Int32 → gMem → Prop) (Γ : gC) (r0 : Nat) (μ : gMem) : Prop := G l D RX8 cX8_habitOf 2 (some .int) d (pI q) Γ 54 [(0, .ref (D.2.2 4 r0))] [] μ
set_option maxRecDepth 20000 in
set_option maxHeartbeats 4000000 in
theorem bl_X8_habitOf_0 {l : Launch} {D : gD} {d : Nat} {q : Int32 → gMem → Prop} {Γ : gC} {r0 : Nat} {x1 : Int32} {μ : gMem} (hr0 : r0 < 15) (h : (((μ.1 4 r0 2) ≤ 0) → pt_X8_habitOf_1 l D d q Γ r0 x1 μ) ∧ ((¬ (μ.1 4 r0 2) ≤ 0) → ((¬ ((μ.1 4 r0 2) - (μ.1 4 r0 2) / (7 : Int32) * (7 : Int32)) = 0) → pt_X8_habitOf_1 l D d q Γ r0 x1 μ) ∧ ((((μ.1 4 r0 2) - (μ.1 4 r0 2) / (7 : Int32) * (7 : Int32)) = 0) → (0 < d) ∧ (q (imin (99 : Int32) ((μ.1 4 r0 1) + (1 : Int32))) μ)))) : pt_X8_habitOf_0 l D d q Γ r0 x1 μ := by
  unfold pt_X8_habitOf_0
  refine g_aload_n dX8_habitOf_0 rfl ?_
  refine g_gfI fi_8_117 hr0 dX8_habitOf_1 ?_
  refine g_if_le (tgt := 29) dX8_habitOf_4 (by decide) (fun c_1 => ?_) (fun c_1 => ?_)
  · have h := h.1 c_1
    exact g_sub [0, 1] rfl h
  · have h := h.2 c_1
    refine g_aload_n dX8_habitOf_7 rfl ?_
    refine g_gfI fi_8_117 hr0 dX8_habitOf_8 ?_
    refine g_bipush (7 : Int32) dX8_habitOf_11 rfl ?_
    refine g_irem dX8_habitOf_13 (by decide) ?_
    refine g_if_ne (tgt := 29) dX8_habitOf_14 (by decide) (fun c_2 => ?_) (fun c_2 => ?_)
    · have h := h.1 c_2
      exact g_sub [0, 1] rfl h
    · have h := h.2 c_2
      refine g_bipush (99 : Int32) dX8_habitOf_17 rfl ?_
      refine g_aload_n dX8_habitOf_19 rfl ?_
      refine g_gfI fi_8_82 hr0 dX8_habitOf_20 ?_
      refine g_iconst (1 : Int32) dX8_habitOf_23 rfl ?_
      refine g_iadd dX8_habitOf_24 ?_
      obtain ⟨hd_3, h⟩ := h
      refine g_mmin hd_3 mk_X8_139 (by first | exact Nat.le_of_ble_eq_true rfl | decide) dX8_habitOf_25 ?_
      exact g_iret dX8_habitOf_28 rfl rfl ⟨_, rfl, h⟩
set_option maxRecDepth 20000 in
set_option maxHeartbeats 4000000 in
theorem bl_X8_habitOf_1 {l : Launch} {D : gD} {d : Nat} {q : Int32 → gMem → Prop} {Γ : gC} {r0 : Nat} {x1 : Int32} {μ : gMem} (hr0 : r0 < 15) (h : ((¬ (μ.1 4 r0 2) = 0) → pt_X8_habitOf_2 l D d q Γ r0 μ) ∧ (((μ.1 4 r0 2) = 0) → ((x1 < (3 : Int32)) → pt_X8_habitOf_2 l D d q Γ r0 μ) ∧ ((¬ x1 < (3 : Int32)) → (0 < d) ∧ (q (imax (0 : Int32) ((μ.1 4 r0 1) - (1 : Int32))) μ)))) : pt_X8_habitOf_1 l D d q Γ r0 x1 μ := by
  unfold pt_X8_habitOf_1
  refine g_aload_n dX8_habitOf_29 rfl ?_
  refine g_gfI fi_8_117 hr0 dX8_habitOf_30 ?_
  refine g_if_ne (tgt := 54) dX8_habitOf_33 (by decide) (fun c_1 => ?_) (fun c_1 => ?_)
  · have h := h.1 c_1
    exact g_sub [0] rfl h
  · have h := h.2 c_1
    refine g_iload_n dX8_habitOf_36 rfl ?_
    refine g_iconst (3 : Int32) dX8_habitOf_37 rfl ?_
    refine g_icmp_lt (tgt := 54) dX8_habitOf_38 (by decide) (fun c_2 => ?_) (fun c_2 => ?_)
    · have h := h.1 c_2
      exact g_sub [0] rfl h
    · have h := h.2 c_2
      refine g_iconst (0 : Int32) dX8_habitOf_41 rfl ?_
      refine g_aload_n dX8_habitOf_42 rfl ?_
      refine g_gfI fi_8_82 hr0 dX8_habitOf_43 ?_
      refine g_iconst (1 : Int32) dX8_habitOf_46 rfl ?_
      refine g_isub dX8_habitOf_47 ?_
      obtain ⟨hd_3, h⟩ := h
      refine g_mmax hd_3 mk_X8_152 (by first | exact Nat.le_of_ble_eq_true rfl | decide) dX8_habitOf_48 ?_
      refine g_goto (tgt := 58) dX8_habitOf_51 (by decide) ?_
      exact g_iret dX8_habitOf_58 rfl rfl ⟨_, rfl, h⟩
set_option maxRecDepth 20000 in
set_option maxHeartbeats 4000000 in
theorem bl_X8_habitOf_2 {l : Launch} {D : gD} {d : Nat} {q : Int32 → gMem → Prop} {Γ : gC} {r0 : Nat} {μ : gMem} (hr0 : r0 < 15) (h : q (μ.1 4 r0 1) μ) : pt_X8_habitOf_2 l D d q Γ r0 μ := by
  unfold pt_X8_habitOf_2
  refine g_aload_n dX8_habitOf_54 rfl ?_
  refine g_gfI fi_8_82 hr0 dX8_habitOf_55 ?_
  exact g_iret dX8_habitOf_58 rfl rfl ⟨_, rfl, h⟩
theorem en_X8_habitOf {l : Launch} {D : gD} {d : Nat} {q : Int32 → gMem → Prop} {r0 : Nat} {x1 : Int32} {μ : gMem} (h : ∀ Γ : gC, pt_X8_habitOf_0 l D d q Γ r0 x1 μ) : Ctr l D d yX8_habitOf cX8_habitOf 2 (some .int) [.ref (D.2.2 4 r0), .int x1] μ (pI q) :=
  Ctr_of rfl (by decide) (Nat.le_of_ble_eq_true rfl) (fun Γ => g_sub [0, 1] rfl (h Γ))
def pt_X8_givePot_0 (l : Launch) (D : gD) (d : Nat) (q : gMem → Prop) (Γ : gC) (r0 : Nat) (r1 : Nat) (μ : gMem) : Prop := G l D RX8 cX8_givePot 3 none d (pV q) Γ 0 [(0, .ref (D.2.2 8 r0)), (1, .ref (D.2.2 7 r1))] [] μ
def pt_X8_givePot_1 (l : Launch) (D : gD) (d : Nat) (q : gMem → Prop) (Γ : gC) (r0 : Nat) (r1 : Nat) (μ : gMem) : Prop := G l D RX8 cX8_givePot 3 none d (pV q) Γ 41 [(0, .ref (D.2.2 8 r0)), (1, .ref (D.2.2 7 r1))] [] μ
def pt_X8_givePot_2 (l : Launch) (D : gD) (d : Nat) (q : gMem → Prop) (Γ : gC) (r0 : Nat) (r1 : Nat) (x2 : Int32) (μ : gMem) : Prop := G l D RX8 cX8_givePot 3 none d (pV q) Γ 43 [(0, .ref (D.2.2 8 r0)), (1, .ref (D.2.2 7 r1)), (2, .int x2)] [] μ
set_option maxRecDepth 20000 in
set_option maxHeartbeats 4000000 in
theorem bl_X8_givePot_0 {l : Launch} {D : gD} {d : Nat} {q : gMem → Prop} {Γ : gC} {r0 : Nat} {r1 : Nat} {μ : gMem} (hr0 : r0 < 3) (hr1 : r1 < 2) (h : ∃ (d_1 : Nat) (q_2 : Int32 → gMem → Prop), d_1 < d ∧ Ctr l D d_1 yX8_greatest cX8_greatest 4 (some .int) [.ref (D.2.2 8 r0), .int (μ.1 7 r1 0)] μ (pI q_2) ∧ ∀ (v_6 : Int32) (μ_5 : gMem), q_2 v_6 μ_5 → ∀ μ_8 : gMem, μ_8 = gsI μ_5 8 r0 4 v_6 → (((μ_8.1 8 r0 4) = (-1 : Int32)) → pt_X8_givePot_1 l D d q Γ r0 r1 μ_8) ∧ ((¬ (μ_8.1 8 r0 4) = (-1 : Int32)) → ∃ j_10 : Nat, j_10 < 5 ∧ μ_8.1 8 r0 4 = nI j_10 ∧ (∀ μ_12 : gMem, μ_12 = gsI μ_8 4 (5 * r0 + j_10) 8 ((μ_8.1 4 (5 * r0 + j_10) 8) + (μ_8.1 7 r1 12)) → pt_X8_givePot_1 l D d q Γ r0 r1 μ_12))) : pt_X8_givePot_0 l D d q Γ r0 r1 μ := by
  unfold pt_X8_givePot_0
  refine g_aload_n dX8_givePot_0 rfl ?_
  refine g_aload_n dX8_givePot_1 rfl ?_
  refine g_aload_n dX8_givePot_2 rfl ?_
  refine g_gfI fi_8_68 hr1 dX8_givePot_3 ?_
  obtain ⟨d_1, q_2, hd_3, hc_4, h⟩ := h
  refine g_cV ca_X8_155 ob_8 hc_4 hd_3 (by decide) hr0 rfl rfl (by first | exact Nat.le_of_ble_eq_true rfl | decide) dX8_givePot_6 (kI (fun v_6 μ_5 hq_7 => ?_))
  have h := h v_6 μ_5 hq_7
  refine g_pfI fi_8_17 hr0 rfl rfl dX8_givePot_9 ?_
  obtain ⟨μ_8, eμ_8⟩ : ∃ z : gMem, z = gsI μ_5 8 r0 4 v_6 := ⟨_, rfl⟩
  have h := h μ_8 eμ_8
  refine g_mem eμ_8.symm ?_
  refine g_aload_n dX8_givePot_12 rfl ?_
  refine g_gfI fi_8_17 hr0 dX8_givePot_13 ?_
  refine g_iconst (-1 : Int32) dX8_givePot_16 rfl ?_
  refine g_icmp_eq (tgt := 41) dX8_givePot_17 (by decide) (fun c_9 => ?_) (fun c_9 => ?_)
  · have h := h.1 c_9
    exact g_sub [0, 1] rfl h
  · have h := h.2 c_9
    refine g_aload_n dX8_givePot_20 rfl ?_
    refine g_gfR fl_8_11 rfl hr0 dX8_givePot_21 ?_
    refine g_aload_n dX8_givePot_24 rfl ?_
    refine g_gfI fi_8_17 hr0 dX8_givePot_25 ?_
    obtain ⟨j_10, hj_10, ej_10, h⟩ := h
    refine g_aald j_10 hr0 hj_10 ej_10 dX8_givePot_28 ?_
    have hp_11 : 5 * r0 + j_10 < 15 := by have : r0 < 3 := hr0; omega
    refine g_dup dX8_givePot_29 rfl ?_
    refine g_gfI fi_8_159 hp_11 dX8_givePot_30 ?_
    refine g_aload_n dX8_givePot_33 rfl ?_
    refine g_gfI fi_8_162 hr1 dX8_givePot_34 ?_
    refine g_iadd dX8_givePot_37 ?_
    refine g_pfI fi_8_159 hp_11 rfl rfl dX8_givePot_38 ?_
    obtain ⟨μ_12, eμ_12⟩ : ∃ z : gMem, z = gsI μ_8 4 (5 * r0 + j_10) 8 ((μ_8.1 4 (5 * r0 + j_10) 8) + (μ_8.1 7 r1 12)) := ⟨_, rfl⟩
    have h := h μ_12 eμ_12
    refine g_mem eμ_12.symm ?_
    exact g_sub [0, 1] rfl h
set_option maxRecDepth 20000 in
set_option maxHeartbeats 4000000 in
theorem bl_X8_givePot_1 {l : Launch} {D : gD} {d : Nat} {q : gMem → Prop} {Γ : gC} {r0 : Nat} {r1 : Nat} {μ : gMem} (hr0 : r0 < 3) (hr1 : r1 < 2) (h : ∀ x2_1 : Int32, x2_1 = (0 : Int32) → pt_X8_givePot_2 l D d q Γ r0 r1 x2_1 μ) : pt_X8_givePot_1 l D d q Γ r0 r1 μ := by
  unfold pt_X8_givePot_1
  refine g_iconst (0 : Int32) dX8_givePot_41 rfl ?_
  refine g_istore_n dX8_givePot_42 (by decide) (fun x2_1 ex2_1 => g_sub (lv' := [(0, .ref (D.2.2 8 r0)), (1, .ref (D.2.2 7 r1)), (2, .int x2_1)]) [1, 2, 0] rfl ?_)
  have h := h x2_1 ex2_1
  exact g_sub [0, 1, 2] rfl h
set_option maxRecDepth 20000 in
set_option maxHeartbeats 4000000 in
theorem bl_X8_givePot_2 {l : Launch} {D : gD} {d : Nat} {q : gMem → Prop} {Γ : gC} {r0 : Nat} {r1 : Nat} {x2 : Int32} {μ : gMem} (hr0 : r0 < 3) (hr1 : r1 < 2) (h : (((μ.1 7 r1 0) ≤ x2) → q μ) ∧ ((¬ (μ.1 7 r1 0) ≤ x2) → ∃ j_2 : Nat, j_2 < 5 ∧ x2 = nI j_2 ∧ (∀ μ_4 : gMem, μ_4 = gsI μ 4 (5 * r0 + j_2) 4 (0 : Int32) → ∀ x2_5 : Int32, x2_5 = x2 + (1 : Int32) → pt_X8_givePot_2 l D d q Γ r0 r1 x2_5 μ_4))) : pt_X8_givePot_2 l D d q Γ r0 r1 x2 μ := by
  unfold pt_X8_givePot_2
  refine g_iload_n dX8_givePot_43 rfl ?_
  refine g_aload_n dX8_givePot_44 rfl ?_
  refine g_gfI fi_8_68 hr1 dX8_givePot_45 ?_
  refine g_icmp_ge (tgt := 67) dX8_givePot_48 (by decide) (fun c_1 => ?_) (fun c_1 => ?_)
  · have h := h.1 c_1
    exact g_vret dX8_givePot_67 rfl ⟨rfl, h⟩
  · have h := h.2 c_1
    refine g_aload_n dX8_givePot_51 rfl ?_
    refine g_gfR fl_8_11 rfl hr0 dX8_givePot_52 ?_
    refine g_iload_n dX8_givePot_55 rfl ?_
    obtain ⟨j_2, hj_2, ej_2, h⟩ := h
    refine g_aald j_2 hr0 hj_2 ej_2 dX8_givePot_56 ?_
    have hp_3 : 5 * r0 + j_2 < 15 := by have : r0 < 3 := hr0; omega
    refine g_iconst (0 : Int32) dX8_givePot_57 rfl ?_
    refine g_pfI fi_8_136 hp_3 rfl rfl dX8_givePot_58 ?_
    obtain ⟨μ_4, eμ_4⟩ : ∃ z : gMem, z = gsI μ 4 (5 * r0 + j_2) 4 (0 : Int32) := ⟨_, rfl⟩
    have h := h μ_4 eμ_4
    refine g_mem eμ_4.symm ?_
    refine g_iinc dX8_givePot_61 rfl (by decide) (fun x2_5 ex2_5 => g_sub (lv' := [(0, .ref (D.2.2 8 r0)), (1, .ref (D.2.2 7 r1)), (2, .int x2_5)]) [1, 2, 0] rfl ?_)
    have h := h x2_5 ex2_5
    refine g_goto (tgt := 43) dX8_givePot_64 (by decide) ?_
    exact g_sub [0, 1, 2] rfl h
theorem en_X8_givePot {l : Launch} {D : gD} {d : Nat} {q : gMem → Prop} {r0 : Nat} {r1 : Nat} {μ : gMem} (h : ∀ Γ : gC, pt_X8_givePot_0 l D d q Γ r0 r1 μ) : Ctr l D d yX8_givePot cX8_givePot 3 none [.ref (D.2.2 8 r0), .ref (D.2.2 7 r1)] μ (pV q) :=
  Ctr_of rfl (by decide) (Nat.le_of_ble_eq_true rfl) (fun Γ => g_sub [0, 1] rfl (h Γ))
def pt_X8_greatest_0 (l : Launch) (D : gD) (d : Nat) (q : Int32 → gMem → Prop) (Γ : gC) (r0 : Nat) (x1 : Int32) (μ : gMem) : Prop := G l D RX8 cX8_greatest 4 (some .int) d (pI q) Γ 0 [(0, .ref (D.2.2 8 r0)), (1, .int x1)] [] μ
def pt_X8_greatest_1 (l : Launch) (D : gD) (d : Nat) (q : Int32 → gMem → Prop) (Γ : gC) (r0 : Nat) (x1 : Int32) (x2 : Int32) (x3 : Int32) (μ : gMem) : Prop := G l D RX8 cX8_greatest 4 (some .int) d (pI q) Γ 4 [(0, .ref (D.2.2 8 r0)), (1, .int x1), (2, .int x2), (3, .int x3)] [] μ
def pt_X8_greatest_2 (l : Launch) (D : gD) (d : Nat) (q : Int32 → gMem → Prop) (Γ : gC) (r0 : Nat) (x1 : Int32) (x3 : Int32) (μ : gMem) : Prop := G l D RX8 cX8_greatest 4 (some .int) d (pI q) Γ 43 [(0, .ref (D.2.2 8 r0)), (1, .int x1), (3, .int x3)] [] μ
def pt_X8_greatest_3 (l : Launch) (D : gD) (d : Nat) (q : Int32 → gMem → Prop) (Γ : gC) (r0 : Nat) (x1 : Int32) (x2 : Int32) (x3 : Int32) (μ : gMem) : Prop := G l D RX8 cX8_greatest 4 (some .int) d (pI q) Γ 45 [(0, .ref (D.2.2 8 r0)), (1, .int x1), (2, .int x2), (3, .int x3)] [] μ
set_option maxRecDepth 20000 in
set_option maxHeartbeats 4000000 in
theorem bl_X8_greatest_0 {l : Launch} {D : gD} {d : Nat} {q : Int32 → gMem → Prop} {Γ : gC} {r0 : Nat} {x1 : Int32} {μ : gMem} (hr0 : r0 < 3) (h : ∀ x2_1 : Int32, x2_1 = (-1 : Int32) → ∀ x3_2 : Int32, x3_2 = (0 : Int32) → pt_X8_greatest_1 l D d q Γ r0 x1 x2_1 x3_2 μ) : pt_X8_greatest_0 l D d q Γ r0 x1 μ := by
  unfold pt_X8_greatest_0
  refine g_iconst (-1 : Int32) dX8_greatest_0 rfl ?_
  refine g_istore_n dX8_greatest_1 (by decide) (fun x2_1 ex2_1 => g_sub (lv' := [(0, .ref (D.2.2 8 r0)), (1, .int x1), (2, .int x2_1)]) [1, 2, 0] rfl ?_)
  have h := h x2_1 ex2_1
  refine g_iconst (0 : Int32) dX8_greatest_2 rfl ?_
  refine g_istore_n dX8_greatest_3 (by decide) (fun x3_2 ex3_2 => g_sub (lv' := [(0, .ref (D.2.2 8 r0)), (1, .int x1), (2, .int x2_1), (3, .int x3_2)]) [1, 2, 3, 0] rfl ?_)
  have h := h x3_2 ex3_2
  exact g_sub [0, 1, 2, 3] rfl h
set_option maxRecDepth 20000 in
set_option maxHeartbeats 4000000 in
theorem bl_X8_greatest_1 {l : Launch} {D : gD} {d : Nat} {q : Int32 → gMem → Prop} {Γ : gC} {r0 : Nat} {x1 : Int32} {x2 : Int32} {x3 : Int32} {μ : gMem} (hr0 : r0 < 3) (h : ((x1 ≤ x3) → q x2 μ) ∧ ((¬ x1 ≤ x3) → ((x3 = (μ.1 8 r0 5)) → pt_X8_greatest_3 l D d q Γ r0 x1 x2 x3 μ) ∧ ((¬ x3 = (μ.1 8 r0 5)) → ((x2 = (-1 : Int32)) → pt_X8_greatest_2 l D d q Γ r0 x1 x3 μ) ∧ ((¬ x2 = (-1 : Int32)) → ∃ j_4 : Nat, j_4 < 5 ∧ x3 = nI j_4 ∧ (∃ j_6 : Nat, j_6 < 5 ∧ x2 = nI j_6 ∧ ((((μ.1 4 (5 * r0 + j_4) 4) ≤ (μ.1 4 (5 * r0 + j_6) 4)) → pt_X8_greatest_3 l D d q Γ r0 x1 x2 x3 μ) ∧ ((¬ (μ.1 4 (5 * r0 + j_4) 4) ≤ (μ.1 4 (5 * r0 + j_6) 4)) → pt_X8_greatest_2 l D d q Γ r0 x1 x3 μ))))))) : pt_X8_greatest_1 l D d q Γ r0 x1 x2 x3 μ := by
  unfold pt_X8_greatest_1
  refine g_iload_n dX8_greatest_4 rfl ?_
  refine g_iload_n dX8_greatest_5 rfl ?_
  refine g_icmp_ge (tgt := 51) dX8_greatest_6 (by decide) (fun c_1 => ?_) (fun c_1 => ?_)
  · have h := h.1 c_1
    refine g_iload_n dX8_greatest_51 rfl ?_
    exact g_iret dX8_greatest_52 rfl rfl ⟨_, rfl, h⟩
  · have h := h.2 c_1
    refine g_iload_n dX8_greatest_9 rfl ?_
    refine g_aload_n dX8_greatest_10 rfl ?_
    refine g_gfI fi_8_21 hr0 dX8_greatest_11 ?_
    refine g_icmp_eq (tgt := 45) dX8_greatest_14 (by decide) (fun c_2 => ?_) (fun c_2 => ?_)
    · have h := h.1 c_2
      exact g_sub [0, 1, 2, 3] rfl h
    · have h := h.2 c_2
      refine g_iload_n dX8_greatest_17 rfl ?_
      refine g_iconst (-1 : Int32) dX8_greatest_18 rfl ?_
      refine g_icmp_eq (tgt := 43) dX8_greatest_19 (by decide) (fun c_3 => ?_) (fun c_3 => ?_)
      · have h := h.1 c_3
        exact g_sub [0, 1, 3] rfl h
      · have h := h.2 c_3
        refine g_aload_n dX8_greatest_22 rfl ?_
        refine g_gfR fl_8_11 rfl hr0 dX8_greatest_23 ?_
        refine g_iload_n dX8_greatest_26 rfl ?_
        obtain ⟨j_4, hj_4, ej_4, h⟩ := h
        refine g_aald j_4 hr0 hj_4 ej_4 dX8_greatest_27 ?_
        have hp_5 : 5 * r0 + j_4 < 15 := by have : r0 < 3 := hr0; omega
        refine g_gfI fi_8_136 hp_5 dX8_greatest_28 ?_
        refine g_aload_n dX8_greatest_31 rfl ?_
        refine g_gfR fl_8_11 rfl hr0 dX8_greatest_32 ?_
        refine g_iload_n dX8_greatest_35 rfl ?_
        obtain ⟨j_6, hj_6, ej_6, h⟩ := h
        refine g_aald j_6 hr0 hj_6 ej_6 dX8_greatest_36 ?_
        have hp_7 : 5 * r0 + j_6 < 15 := by have : r0 < 3 := hr0; omega
        refine g_gfI fi_8_136 hp_7 dX8_greatest_37 ?_
        refine g_icmp_le (tgt := 45) dX8_greatest_40 (by decide) (fun c_8 => ?_) (fun c_8 => ?_)
        · have h := h.1 c_8
          exact g_sub [0, 1, 2, 3] rfl h
        · have h := h.2 c_8
          exact g_sub [0, 1, 3] rfl h
set_option maxRecDepth 20000 in
set_option maxHeartbeats 4000000 in
theorem bl_X8_greatest_2 {l : Launch} {D : gD} {d : Nat} {q : Int32 → gMem → Prop} {Γ : gC} {r0 : Nat} {x1 : Int32} {x3 : Int32} {μ : gMem} (hr0 : r0 < 3) (h : ∀ x2_1 : Int32, x2_1 = x3 → pt_X8_greatest_3 l D d q Γ r0 x1 x2_1 x3 μ) : pt_X8_greatest_2 l D d q Γ r0 x1 x3 μ := by
  unfold pt_X8_greatest_2
  refine g_iload_n dX8_greatest_43 rfl ?_
  refine g_istore_n dX8_greatest_44 (by decide) (fun x2_1 ex2_1 => g_sub (lv' := [(0, .ref (D.2.2 8 r0)), (1, .int x1), (2, .int x2_1), (3, .int x3)]) [1, 2, 0, 3] rfl ?_)
  have h := h x2_1 ex2_1
  exact g_sub [0, 1, 2, 3] rfl h
set_option maxRecDepth 20000 in
set_option maxHeartbeats 4000000 in
theorem bl_X8_greatest_3 {l : Launch} {D : gD} {d : Nat} {q : Int32 → gMem → Prop} {Γ : gC} {r0 : Nat} {x1 : Int32} {x2 : Int32} {x3 : Int32} {μ : gMem} (hr0 : r0 < 3) (h : ∀ x3_1 : Int32, x3_1 = x3 + (1 : Int32) → pt_X8_greatest_1 l D d q Γ r0 x1 x2 x3_1 μ) : pt_X8_greatest_3 l D d q Γ r0 x1 x2 x3 μ := by
  unfold pt_X8_greatest_3
  refine g_iinc dX8_greatest_45 rfl (by decide) (fun x3_1 ex3_1 => g_sub (lv' := [(0, .ref (D.2.2 8 r0)), (1, .int x1), (2, .int x2), (3, .int x3_1)]) [1, 2, 3, 0] rfl ?_)
  have h := h x3_1 ex3_1
  refine g_goto (tgt := 4) dX8_greatest_48 (by decide) ?_
  exact g_sub [0, 1, 2, 3] rfl h
theorem en_X8_greatest {l : Launch} {D : gD} {d : Nat} {q : Int32 → gMem → Prop} {r0 : Nat} {x1 : Int32} {μ : gMem} (h : ∀ Γ : gC, pt_X8_greatest_0 l D d q Γ r0 x1 μ) : Ctr l D d yX8_greatest cX8_greatest 4 (some .int) [.ref (D.2.2 8 r0), .int x1] μ (pI q) :=
  Ctr_of rfl (by decide) (Nat.le_of_ble_eq_true rfl) (fun Γ => g_sub [0, 1] rfl (h Γ))
def pt_X8_ruled_0 (l : Launch) (D : gD) (d : Nat) (q : Int32 → gMem → Prop) (Γ : gC) (r0 : Nat) (r1 : Nat) (x2 : Int32) (r3 : Nat) (x4 : Int32) (x5 : Int32) (x6 : Int32) (μ : gMem) : Prop := G l D RX8 cX8_ruled 7 (some .int) d (pI q) Γ 0 [(0, .ref (D.2.2 8 r0)), (1, .ref (D.2.2 2 r1)), (2, .int x2), (3, .ref (D.2.2 4 r3)), (4, .int x4), (5, .int x5), (6, .int x6)] [] μ
set_option maxRecDepth 20000 in
set_option maxHeartbeats 4000000 in
theorem bl_X8_ruled_0 {l : Launch} {D : gD} {d : Nat} {q : Int32 → gMem → Prop} {Γ : gC} {r0 : Nat} {r1 : Nat} {x2 : Int32} {r3 : Nat} {x4 : Int32} {x5 : Int32} {x6 : Int32} {μ : gMem} (hr0 : r0 < 3) (hr1 : r1 < 2) (hr3 : r3 < 15) (h : ∃ (d_1 : Nat) (q_2 : Int32 → gMem → Prop), d_1 < d ∧ Ctr l D d_1 yX2_isTold cX2_isTold 2 (some .boolean) [.ref (D.2.2 2 r1), .int x2] μ (pI q_2) ∧ ∀ (v_6 : Int32) (μ_5 : gMem), q_2 v_6 μ_5 → ((¬ v_6 = 0) → ∃ (d_9 : Nat) (q_10 : gMem → Prop), d_9 < d ∧ Ctr l D d_9 yX8_setNames cX8_setNames 6 none [.ref (D.2.2 8 r0), .ref (D.2.2 2 r1), .ref (D.2.2 4 r3), .int x4] μ_5 (pV q_10) ∧ ∀ (μ_13 : gMem), q_10 μ_13 → ∃ (d_16 : Nat) (q_17 : Int32 → gMem → Prop), d_16 < d ∧ Ctr l D d_16 yX2_workOut cX2_workOut 5 (some .boolean) [.ref (D.2.2 2 r1), .int x2] μ_13 (pI q_17) ∧ ∀ (v_21 : Int32) (μ_20 : gMem), q_17 v_21 μ_20 → ((¬ v_21 = 0) → (0 < d) ∧ ((0 < d) ∧ (q ((jmax (0 : Int64) (jmin x5.toInt64 (μ_20.2.1 2 r1 9))).toInt32) μ_20))) ∧ ((v_21 = 0) → q x6 μ_20)) ∧ ((v_6 = 0) → q x6 μ_5)) : pt_X8_ruled_0 l D d q Γ r0 r1 x2 r3 x4 x5 x6 μ := by
  unfold pt_X8_ruled_0
  refine g_aload_n dX8_ruled_0 rfl ?_
  refine g_iload_n dX8_ruled_1 rfl ?_
  obtain ⟨d_1, q_2, hd_3, hc_4, h⟩ := h
  refine g_cV ca_X8_165 ob_2 hc_4 hd_3 (by decide) hr1 rfl rfl (by first | exact Nat.le_of_ble_eq_true rfl | decide) dX8_ruled_2 (kI (fun v_6 μ_5 hq_7 => ?_))
  have h := h v_6 μ_5 hq_7
  refine g_if_ne (tgt := 11) dX8_ruled_5 (by decide) (fun c_8 => ?_) (fun c_8 => ?_)
  · have h := h.1 c_8
    refine g_aload_n dX8_ruled_11 rfl ?_
    refine g_aload_n dX8_ruled_12 rfl ?_
    refine g_aload_n dX8_ruled_13 rfl ?_
    refine g_iload dX8_ruled_14 rfl ?_
    obtain ⟨d_9, q_10, hd_11, hc_12, h⟩ := h
    refine g_cV ca_X8_171 ob_8 hc_12 hd_11 (by decide) hr0 rfl rfl (by first | exact Nat.le_of_ble_eq_true rfl | decide) dX8_ruled_16 (kV (fun μ_13 hq_15 => ?_))
    have h := h μ_13 hq_15
    refine g_aload_n dX8_ruled_19 rfl ?_
    refine g_iload_n dX8_ruled_20 rfl ?_
    obtain ⟨d_16, q_17, hd_18, hc_19, h⟩ := h
    refine g_cV ca_X8_175 ob_2 hc_19 hd_18 (by decide) hr1 rfl rfl (by first | exact Nat.le_of_ble_eq_true rfl | decide) dX8_ruled_21 (kI (fun v_21 μ_20 hq_22 => ?_))
    have h := h v_21 μ_20 hq_22
    refine g_if_ne (tgt := 30) dX8_ruled_24 (by decide) (fun c_23 => ?_) (fun c_23 => ?_)
    · have h := h.1 c_23
      refine g_lconst (0 : Int64) dX8_ruled_30 rfl ?_
      refine g_iload dX8_ruled_31 rfl ?_
      refine g_i2l dX8_ruled_33 ?_
      refine g_aload_n dX8_ruled_34 rfl ?_
      refine g_gfJ fi_8_178 hr1 dX8_ruled_35 ?_
      obtain ⟨hd_24, h⟩ := h
      refine g_mmin_long hd_24 mk_X8_181 (by first | exact Nat.le_of_ble_eq_true rfl | decide) dX8_ruled_38 ?_
      obtain ⟨hd_25, h⟩ := h
      refine g_mmax_long hd_25 mk_X8_184 (by first | exact Nat.le_of_ble_eq_true rfl | decide) dX8_ruled_41 ?_
      refine g_l2i dX8_ruled_44 ?_
      exact g_iret dX8_ruled_45 rfl rfl ⟨_, rfl, h⟩
    · have h := h.2 c_23
      refine g_iload dX8_ruled_27 rfl ?_
      exact g_iret dX8_ruled_29 rfl rfl ⟨_, rfl, h⟩
  · have h := h.2 c_8
    refine g_iload dX8_ruled_8 rfl ?_
    exact g_iret dX8_ruled_10 rfl rfl ⟨_, rfl, h⟩
theorem en_X8_ruled {l : Launch} {D : gD} {d : Nat} {q : Int32 → gMem → Prop} {r0 : Nat} {r1 : Nat} {x2 : Int32} {r3 : Nat} {x4 : Int32} {x5 : Int32} {x6 : Int32} {μ : gMem} (h : ∀ Γ : gC, pt_X8_ruled_0 l D d q Γ r0 r1 x2 r3 x4 x5 x6 μ) : Ctr l D d yX8_ruled cX8_ruled 7 (some .int) [.ref (D.2.2 8 r0), .ref (D.2.2 2 r1), .int x2, .ref (D.2.2 4 r3), .int x4, .int x5, .int x6] μ (pI q) :=
  Ctr_of rfl (by decide) (Nat.le_of_ble_eq_true rfl) (fun Γ => g_sub [0, 1, 2, 3, 4, 5, 6] rfl (h Γ))
def pt_X8_setNames_0 (l : Launch) (D : gD) (d : Nat) (q : gMem → Prop) (Γ : gC) (r0 : Nat) (r1 : Nat) (r2 : Nat) (x3 : Int32) (μ : gMem) : Prop := G l D RX8 cX8_setNames 6 none d (pV q) Γ 0 [(0, .ref (D.2.2 8 r0)), (1, .ref (D.2.2 2 r1)), (2, .ref (D.2.2 4 r2)), (3, .int x3)] [] μ
def pt_X8_setNames_1 (l : Launch) (D : gD) (d : Nat) (q : gMem → Prop) (Γ : gC) (r0 : Nat) (r1 : Nat) (r2 : Nat) (x3 : Int32) (x4 : Int32) (x5 : Int32) (μ : gMem) : Prop := G l D RX8 cX8_setNames 6 none d (pV q) Γ 9 [(0, .ref (D.2.2 8 r0)), (1, .ref (D.2.2 2 r1)), (2, .ref (D.2.2 4 r2)), (3, .int x3), (4, .int x4), (5, .int x5)] [] μ
def pt_X8_setNames_2 (l : Launch) (D : gD) (d : Nat) (q : gMem → Prop) (Γ : gC) (r0 : Nat) (r1 : Nat) (r2 : Nat) (x3 : Int32) (x4 : Int32) (x5 : Int32) (μ : gMem) : Prop := G l D RX8 cX8_setNames 6 none d (pV q) Γ 48 [(0, .ref (D.2.2 8 r0)), (1, .ref (D.2.2 2 r1)), (2, .ref (D.2.2 4 r2)), (3, .int x3), (4, .int x4), (5, .int x5)] [] μ
def pt_X8_setNames_3 (l : Launch) (D : gD) (d : Nat) (q : gMem → Prop) (Γ : gC) (r0 : Nat) (r1 : Nat) (r2 : Nat) (x3 : Int32) (x4 : Int32) (μ : gMem) : Prop := G l D RX8 cX8_setNames 6 none d (pV q) Γ 54 [(0, .ref (D.2.2 8 r0)), (1, .ref (D.2.2 2 r1)), (2, .ref (D.2.2 4 r2)), (3, .int x3), (4, .int x4)] [] μ
set_option maxRecDepth 20000 in
set_option maxHeartbeats 4000000 in
theorem bl_X8_setNames_0 {l : Launch} {D : gD} {d : Nat} {q : gMem → Prop} {Γ : gC} {r0 : Nat} {r1 : Nat} {r2 : Nat} {x3 : Int32} {μ : gMem} (hr0 : r0 < 3) (hr1 : r1 < 2) (hr2 : r2 < 15) (h : ∀ x4_1 : Int32, x4_1 = μ.1 4 r2 4 → ∀ x5_2 : Int32, x5_2 = (0 : Int32) → pt_X8_setNames_1 l D d q Γ r0 r1 r2 x3 x4_1 x5_2 μ) : pt_X8_setNames_0 l D d q Γ r0 r1 r2 x3 μ := by
  unfold pt_X8_setNames_0
  refine g_aload_n dX8_setNames_0 rfl ?_
  refine g_gfI fi_8_136 hr2 dX8_setNames_1 ?_
  refine g_istore dX8_setNames_4 (by decide) (fun x4_1 ex4_1 => g_sub (lv' := [(0, .ref (D.2.2 8 r0)), (1, .ref (D.2.2 2 r1)), (2, .ref (D.2.2 4 r2)), (3, .int x3), (4, .int x4_1)]) [1, 2, 3, 4, 0] rfl ?_)
  have h := h x4_1 ex4_1
  refine g_iconst (0 : Int32) dX8_setNames_6 rfl ?_
  refine g_istore dX8_setNames_7 (by decide) (fun x5_2 ex5_2 => g_sub (lv' := [(0, .ref (D.2.2 8 r0)), (1, .ref (D.2.2 2 r1)), (2, .ref (D.2.2 4 r2)), (3, .int x3), (4, .int x4_1), (5, .int x5_2)]) [1, 2, 3, 4, 5, 0] rfl ?_)
  have h := h x5_2 ex5_2
  exact g_sub [0, 1, 2, 3, 4, 5] rfl h
set_option maxRecDepth 20000 in
set_option maxHeartbeats 4000000 in
theorem bl_X8_setNames_1 {l : Launch} {D : gD} {d : Nat} {q : gMem → Prop} {Γ : gC} {r0 : Nat} {r1 : Nat} {r2 : Nat} {x3 : Int32} {x4 : Int32} {x5 : Int32} {μ : gMem} (hr0 : r0 < 3) (hr1 : r1 < 2) (hr2 : r2 < 15) (h : (((5 : Int32) ≤ x5) → pt_X8_setNames_3 l D d q Γ r0 r1 r2 x3 x4 μ) ∧ ((¬ (5 : Int32) ≤ x5) → (0 < d) ∧ (μ.1 2 r1 8 = 0 ∨ μ.1 2 r1 8 = 1) ∧ ((((μ.1 2 r1 8) = 0) → pt_X8_setNames_3 l D d q Γ r0 r1 r2 x3 x4 μ) ∧ ((¬ (μ.1 2 r1 8) = 0) → ((x5 = (μ.1 8 r0 5)) → pt_X8_setNames_2 l D d q Γ r0 r1 r2 x3 x4 x5 μ) ∧ ((¬ x5 = (μ.1 8 r0 5)) → ∃ j_9 : Nat, j_9 < 5 ∧ x5 = nI j_9 ∧ ((0 < d) ∧ (∀ x4_12 : Int32, x4_12 = imax x4 (μ.1 4 (5 * r0 + j_9) 4) → pt_X8_setNames_2 l D d q Γ r0 r1 r2 x3 x4_12 x5 μ))))))) : pt_X8_setNames_1 l D d q Γ r0 r1 r2 x3 x4 x5 μ := by
  unfold pt_X8_setNames_1
  refine g_iload dX8_setNames_9 rfl ?_
  refine g_iconst (5 : Int32) dX8_setNames_11 rfl ?_
  refine g_icmp_ge (tgt := 54) dX8_setNames_12 (by decide) (fun c_1 => ?_) (fun c_1 => ?_)
  · have h := h.1 c_1
    exact g_sub [0, 1, 2, 3, 4] rfl h
  · have h := h.2 c_1
    refine g_aload_n dX8_setNames_15 rfl ?_
    obtain ⟨hd_2, hs_3, h⟩ := h
    refine g_cV ca_X8_186 ob_2 (c_X2_mindsOthers (d := 0) (Nat.le_refl _) hr1 hs_3 ) hd_2 (by decide) hr1 rfl rfl (by first | exact Nat.le_of_ble_eq_true rfl | decide) dX8_setNames_16 (kI (fun v_4 μ_5 hq_6 => ?_))
    obtain ⟨ev_4, eμ_5⟩ := hq_6
    subst ev_4
    refine g_mem eμ_5 ?_
    refine g_if_eq (tgt := 54) dX8_setNames_19 (by decide) (fun c_7 => ?_) (fun c_7 => ?_)
    · have h := h.1 c_7
      exact g_sub [0, 1, 2, 3, 4] rfl h
    · have h := h.2 c_7
      refine g_iload dX8_setNames_22 rfl ?_
      refine g_aload_n dX8_setNames_24 rfl ?_
      refine g_gfI fi_8_21 hr0 dX8_setNames_25 ?_
      refine g_icmp_eq (tgt := 48) dX8_setNames_28 (by decide) (fun c_8 => ?_) (fun c_8 => ?_)
      · have h := h.1 c_8
        exact g_sub [0, 1, 2, 3, 4, 5] rfl h
      · have h := h.2 c_8
        refine g_iload dX8_setNames_31 rfl ?_
        refine g_aload_n dX8_setNames_33 rfl ?_
        refine g_gfR fl_8_11 rfl hr0 dX8_setNames_34 ?_
        refine g_iload dX8_setNames_37 rfl ?_
        obtain ⟨j_9, hj_9, ej_9, h⟩ := h
        refine g_aald j_9 hr0 hj_9 ej_9 dX8_setNames_39 ?_
        have hp_10 : 5 * r0 + j_9 < 15 := by have : r0 < 3 := hr0; omega
        refine g_gfI fi_8_136 hp_10 dX8_setNames_40 ?_
        obtain ⟨hd_11, h⟩ := h
        refine g_mmax hd_11 mk_X8_152 (by first | exact Nat.le_of_ble_eq_true rfl | decide) dX8_setNames_43 ?_
        refine g_istore dX8_setNames_46 (by decide) (fun x4_12 ex4_12 => g_sub (lv' := [(0, .ref (D.2.2 8 r0)), (1, .ref (D.2.2 2 r1)), (2, .ref (D.2.2 4 r2)), (3, .int x3), (4, .int x4_12), (5, .int x5)]) [1, 2, 3, 4, 0, 5] rfl ?_)
        have h := h x4_12 ex4_12
        exact g_sub [0, 1, 2, 3, 4, 5] rfl h
set_option maxRecDepth 20000 in
set_option maxHeartbeats 4000000 in
theorem bl_X8_setNames_2 {l : Launch} {D : gD} {d : Nat} {q : gMem → Prop} {Γ : gC} {r0 : Nat} {r1 : Nat} {r2 : Nat} {x3 : Int32} {x4 : Int32} {x5 : Int32} {μ : gMem} (hr0 : r0 < 3) (hr1 : r1 < 2) (hr2 : r2 < 15) (h : ∀ x5_1 : Int32, x5_1 = x5 + (1 : Int32) → pt_X8_setNames_1 l D d q Γ r0 r1 r2 x3 x4 x5_1 μ) : pt_X8_setNames_2 l D d q Γ r0 r1 r2 x3 x4 x5 μ := by
  unfold pt_X8_setNames_2
  refine g_iinc dX8_setNames_48 rfl (by decide) (fun x5_1 ex5_1 => g_sub (lv' := [(0, .ref (D.2.2 8 r0)), (1, .ref (D.2.2 2 r1)), (2, .ref (D.2.2 4 r2)), (3, .int x3), (4, .int x4), (5, .int x5_1)]) [1, 2, 3, 4, 5, 0] rfl ?_)
  have h := h x5_1 ex5_1
  refine g_goto (tgt := 9) dX8_setNames_51 (by decide) ?_
  exact g_sub [0, 1, 2, 3, 4, 5] rfl h
set_option maxRecDepth 20000 in
set_option maxHeartbeats 4000000 in
theorem bl_X8_setNames_3 {l : Launch} {D : gD} {d : Nat} {q : gMem → Prop} {Γ : gC} {r0 : Nat} {r1 : Nat} {r2 : Nat} {x3 : Int32} {x4 : Int32} {μ : gMem} (hr0 : r0 < 3) (hr1 : r1 < 2) (hr2 : r2 < 15) (h : ∀ μ_2 : gMem, μ_2 = gsL μ 197 r1 0 ((μ.1 4 r2 1).toInt64) → ∀ μ_4 : gMem, μ_4 = gsL μ_2 197 r1 1 ((μ_2.1 4 r2 0).toInt64) → ∀ μ_6 : gMem, μ_6 = gsL μ_4 197 r1 2 x3.toInt64 → ∀ μ_8 : gMem, μ_8 = gsL μ_6 197 r1 3 ((μ_6.1 4 r2 2).toInt64) → (0 < d) ∧ (∀ μ_11 : gMem, μ_11 = gsL μ_8 197 r1 4 ((imax (0 : Int32) ((μ_8.1 4 r2 0) - x3)).toInt64) → ∀ μ_13 : gMem, μ_13 = gsL μ_11 197 r1 5 ((x4 - (μ_11.1 4 r2 4)).toInt64) → ∀ μ_15 : gMem, μ_15 = gsL μ_13 197 r1 6 ((μ_13.1 8 r0 1).toInt64) → q μ_15)) : pt_X8_setNames_3 l D d q Γ r0 r1 r2 x3 x4 μ := by
  unfold pt_X8_setNames_3
  refine g_aload_n dX8_setNames_54 rfl ?_
  refine g_gfR fl_8_190 rfl hr1 dX8_setNames_55 ?_
  refine g_iconst (0 : Int32) dX8_setNames_58 rfl ?_
  refine g_aload_n dX8_setNames_59 rfl ?_
  refine g_gfI fi_8_82 hr2 dX8_setNames_60 ?_
  refine g_i2l dX8_setNames_63 ?_
  refine g_last 0 hr1 rfl (by decide) (by decide) rfl dX8_setNames_64 ?_
  obtain ⟨μ_2, eμ_2⟩ : ∃ z : gMem, z = gsL μ 197 r1 0 ((μ.1 4 r2 1).toInt64) := ⟨_, rfl⟩
  have h := h μ_2 eμ_2
  refine g_mem eμ_2.symm ?_
  refine g_aload_n dX8_setNames_65 rfl ?_
  refine g_gfR fl_8_190 rfl hr1 dX8_setNames_66 ?_
  refine g_iconst (1 : Int32) dX8_setNames_69 rfl ?_
  refine g_aload_n dX8_setNames_70 rfl ?_
  refine g_gfI fi_8_100 hr2 dX8_setNames_71 ?_
  refine g_i2l dX8_setNames_74 ?_
  refine g_last 1 hr1 rfl (by decide) (by decide) rfl dX8_setNames_75 ?_
  obtain ⟨μ_4, eμ_4⟩ : ∃ z : gMem, z = gsL μ_2 197 r1 1 ((μ_2.1 4 r2 0).toInt64) := ⟨_, rfl⟩
  have h := h μ_4 eμ_4
  refine g_mem eμ_4.symm ?_
  refine g_aload_n dX8_setNames_76 rfl ?_
  refine g_gfR fl_8_190 rfl hr1 dX8_setNames_77 ?_
  refine g_iconst (2 : Int32) dX8_setNames_80 rfl ?_
  refine g_iload_n dX8_setNames_81 rfl ?_
  refine g_i2l dX8_setNames_82 ?_
  refine g_last 2 hr1 rfl (by decide) (by decide) rfl dX8_setNames_83 ?_
  obtain ⟨μ_6, eμ_6⟩ : ∃ z : gMem, z = gsL μ_4 197 r1 2 x3.toInt64 := ⟨_, rfl⟩
  have h := h μ_6 eμ_6
  refine g_mem eμ_6.symm ?_
  refine g_aload_n dX8_setNames_84 rfl ?_
  refine g_gfR fl_8_190 rfl hr1 dX8_setNames_85 ?_
  refine g_iconst (3 : Int32) dX8_setNames_88 rfl ?_
  refine g_aload_n dX8_setNames_89 rfl ?_
  refine g_gfI fi_8_117 hr2 dX8_setNames_90 ?_
  refine g_i2l dX8_setNames_93 ?_
  refine g_last 3 hr1 rfl (by decide) (by decide) rfl dX8_setNames_94 ?_
  obtain ⟨μ_8, eμ_8⟩ : ∃ z : gMem, z = gsL μ_6 197 r1 3 ((μ_6.1 4 r2 2).toInt64) := ⟨_, rfl⟩
  have h := h μ_8 eμ_8
  refine g_mem eμ_8.symm ?_
  refine g_aload_n dX8_setNames_95 rfl ?_
  refine g_gfR fl_8_190 rfl hr1 dX8_setNames_96 ?_
  refine g_iconst (4 : Int32) dX8_setNames_99 rfl ?_
  refine g_iconst (0 : Int32) dX8_setNames_100 rfl ?_
  refine g_aload_n dX8_setNames_101 rfl ?_
  refine g_gfI fi_8_100 hr2 dX8_setNames_102 ?_
  refine g_iload_n dX8_setNames_105 rfl ?_
  refine g_isub dX8_setNames_106 ?_
  obtain ⟨hd_9, h⟩ := h
  refine g_mmax hd_9 mk_X8_152 (by first | exact Nat.le_of_ble_eq_true rfl | decide) dX8_setNames_107 ?_
  refine g_i2l dX8_setNames_110 ?_
  refine g_last 4 hr1 rfl (by decide) (by decide) rfl dX8_setNames_111 ?_
  obtain ⟨μ_11, eμ_11⟩ : ∃ z : gMem, z = gsL μ_8 197 r1 4 ((imax (0 : Int32) ((μ_8.1 4 r2 0) - x3)).toInt64) := ⟨_, rfl⟩
  have h := h μ_11 eμ_11
  refine g_mem eμ_11.symm ?_
  refine g_aload_n dX8_setNames_112 rfl ?_
  refine g_gfR fl_8_190 rfl hr1 dX8_setNames_113 ?_
  refine g_iconst (5 : Int32) dX8_setNames_116 rfl ?_
  refine g_iload dX8_setNames_117 rfl ?_
  refine g_aload_n dX8_setNames_119 rfl ?_
  refine g_gfI fi_8_136 hr2 dX8_setNames_120 ?_
  refine g_isub dX8_setNames_123 ?_
  refine g_i2l dX8_setNames_124 ?_
  refine g_last 5 hr1 rfl (by decide) (by decide) rfl dX8_setNames_125 ?_
  obtain ⟨μ_13, eμ_13⟩ : ∃ z : gMem, z = gsL μ_11 197 r1 5 ((x4 - (μ_11.1 4 r2 4)).toInt64) := ⟨_, rfl⟩
  have h := h μ_13 eμ_13
  refine g_mem eμ_13.symm ?_
  refine g_aload_n dX8_setNames_126 rfl ?_
  refine g_gfR fl_8_190 rfl hr1 dX8_setNames_127 ?_
  refine g_bipush (6 : Int32) dX8_setNames_130 rfl ?_
  refine g_aload_n dX8_setNames_132 rfl ?_
  refine g_gfI fi_8_32 hr0 dX8_setNames_133 ?_
  refine g_i2l dX8_setNames_136 ?_
  refine g_last 6 hr1 rfl (by decide) (by decide) rfl dX8_setNames_137 ?_
  obtain ⟨μ_15, eμ_15⟩ : ∃ z : gMem, z = gsL μ_13 197 r1 6 ((μ_13.1 8 r0 1).toInt64) := ⟨_, rfl⟩
  have h := h μ_15 eμ_15
  refine g_mem eμ_15.symm ?_
  exact g_vret dX8_setNames_138 rfl ⟨rfl, h⟩
theorem en_X8_setNames {l : Launch} {D : gD} {d : Nat} {q : gMem → Prop} {r0 : Nat} {r1 : Nat} {r2 : Nat} {x3 : Int32} {μ : gMem} (h : ∀ Γ : gC, pt_X8_setNames_0 l D d q Γ r0 r1 r2 x3 μ) : Ctr l D d yX8_setNames cX8_setNames 6 none [.ref (D.2.2 8 r0), .ref (D.2.2 2 r1), .ref (D.2.2 4 r2), .int x3] μ (pV q) :=
  Ctr_of rfl (by decide) (Nat.le_of_ble_eq_true rfl) (fun Γ => g_sub [0, 1, 2, 3] rfl (h Γ))
def pt_X8_inAll_0 (l : Launch) (D : gD) (d : Nat) (q : Int32 → gMem → Prop) (Γ : gC) (r0 : Nat) (x1 : Int32) (x2 : Int32) (μ : gMem) : Prop := G l D RX8 cX8_inAll 6 (some .int) d (pI q) Γ 0 [(0, .ref (D.2.2 8 r0)), (1, .int x1), (2, .int x2)] [] μ
def pt_X8_inAll_1 (l : Launch) (D : gD) (d : Nat) (q : Int32 → gMem → Prop) (Γ : gC) (r0 : Nat) (x1 : Int32) (x2 : Int32) (x3 : Int32) (x4 : Int32) (μ : gMem) : Prop := G l D RX8 cX8_inAll 6 (some .int) d (pI q) Γ 5 [(0, .ref (D.2.2 8 r0)), (1, .int x1), (2, .int x2), (3, .int x3), (4, .int x4)] [] μ
def pt_X8_inAll_2 (l : Launch) (D : gD) (d : Nat) (q : Int32 → gMem → Prop) (Γ : gC) (r0 : Nat) (x1 : Int32) (x2 : Int32) (x3 : Int32) (x4 : Int32) (μ : gMem) : Prop := G l D RX8 cX8_inAll 6 (some .int) d (pI q) Γ 104 [(0, .ref (D.2.2 8 r0)), (1, .int x1), (2, .int x2), (3, .int x3), (4, .int x4)] [] μ
set_option maxRecDepth 20000 in
set_option maxHeartbeats 4000000 in
theorem bl_X8_inAll_0 {l : Launch} {D : gD} {d : Nat} {q : Int32 → gMem → Prop} {Γ : gC} {r0 : Nat} {x1 : Int32} {x2 : Int32} {μ : gMem} (hr0 : r0 < 3) (h : ∀ x3_1 : Int32, x3_1 = (0 : Int32) → ∀ x4_2 : Int32, x4_2 = (0 : Int32) → pt_X8_inAll_1 l D d q Γ r0 x1 x2 x3_1 x4_2 μ) : pt_X8_inAll_0 l D d q Γ r0 x1 x2 μ := by
  unfold pt_X8_inAll_0
  refine g_iconst (0 : Int32) dX8_inAll_0 rfl ?_
  refine g_istore_n dX8_inAll_1 (by decide) (fun x3_1 ex3_1 => g_sub (lv' := [(0, .ref (D.2.2 8 r0)), (1, .int x1), (2, .int x2), (3, .int x3_1)]) [1, 2, 3, 0] rfl ?_)
  have h := h x3_1 ex3_1
  refine g_iconst (0 : Int32) dX8_inAll_2 rfl ?_
  refine g_istore dX8_inAll_3 (by decide) (fun x4_2 ex4_2 => g_sub (lv' := [(0, .ref (D.2.2 8 r0)), (1, .int x1), (2, .int x2), (3, .int x3_1), (4, .int x4_2)]) [1, 2, 3, 4, 0] rfl ?_)
  have h := h x4_2 ex4_2
  exact g_sub [0, 1, 2, 3, 4] rfl h
set_option maxRecDepth 20000 in
set_option maxHeartbeats 4000000 in
theorem bl_X8_inAll_1 {l : Launch} {D : gD} {d : Nat} {q : Int32 → gMem → Prop} {Γ : gC} {r0 : Nat} {x1 : Int32} {x2 : Int32} {x3 : Int32} {x4 : Int32} {μ : gMem} (hr0 : r0 < 3) (h : ((x2 ≤ x4) → q x3 μ) ∧ ((¬ x2 ≤ x4) → ∃ j_2 : Nat, j_2 < 5 ∧ x4 = nI j_2 ∧ ((x1 = (0 : Int32) → ∀ x3_5 : Int32, x3_5 = x3 + (μ.1 4 (5 * r0 + j_2) 5) → pt_X8_inAll_2 l D d q Γ r0 x1 x2 x3_5 x4 μ) ∧ (x1 = (1 : Int32) → ∀ x3_6 : Int32, x3_6 = x3 + (μ.1 4 (5 * r0 + j_2) 6) → pt_X8_inAll_2 l D d q Γ r0 x1 x2 x3_6 x4 μ) ∧ (x1 = (2 : Int32) → ∀ x3_7 : Int32, x3_7 = x3 + (μ.1 4 (5 * r0 + j_2) 7) → pt_X8_inAll_2 l D d q Γ r0 x1 x2 x3_7 x4 μ) ∧ (x1 = (3 : Int32) → ∀ x3_8 : Int32, x3_8 = x3 + (μ.1 4 (5 * r0 + j_2) 8) → pt_X8_inAll_2 l D d q Γ r0 x1 x2 x3_8 x4 μ) ∧ ((¬ x1 = (0 : Int32) ∧ ¬ x1 = (1 : Int32) ∧ ¬ x1 = (2 : Int32) ∧ ¬ x1 = (3 : Int32)) → ∀ x3_9 : Int32, x3_9 = x3 + (μ.1 4 (5 * r0 + j_2) 3) → pt_X8_inAll_2 l D d q Γ r0 x1 x2 x3_9 x4 μ)))) : pt_X8_inAll_1 l D d q Γ r0 x1 x2 x3 x4 μ := by
  unfold pt_X8_inAll_1
  refine g_iload dX8_inAll_5 rfl ?_
  refine g_iload_n dX8_inAll_7 rfl ?_
  refine g_icmp_ge (tgt := 110) dX8_inAll_8 (by decide) (fun c_1 => ?_) (fun c_1 => ?_)
  · have h := h.1 c_1
    refine g_iload_n dX8_inAll_110 rfl ?_
    exact g_iret dX8_inAll_111 rfl rfl ⟨_, rfl, h⟩
  · have h := h.2 c_1
    refine g_aload_n dX8_inAll_11 rfl ?_
    refine g_gfR fl_8_11 rfl hr0 dX8_inAll_12 ?_
    refine g_iload dX8_inAll_15 rfl ?_
    obtain ⟨j_2, hj_2, ej_2, h⟩ := h
    refine g_aald j_2 hr0 hj_2 ej_2 dX8_inAll_17 ?_
    have hp_3 : 5 * r0 + j_2 < 15 := by have : r0 < 3 := hr0; omega
    refine g_astore dX8_inAll_18 (by decide) (g_sub (lv' := [(0, .ref (D.2.2 8 r0)), (1, .int x1), (2, .int x2), (3, .int x3), (4, .int x4), (5, .ref (D.2.2 4 (5 * r0 + j_2)))]) [1, 2, 3, 4, 5, 0] rfl ?_)
    refine g_iload_n dX8_inAll_20 rfl ?_
    by_cases c_4_0 : x1 = (0 : Int32)
    · refine g_tableIn (off := 31) (tgt := 52) dX8_inAll_21 (by rw [c_4_0]; decide) (by rw [c_4_0]; decide) (by rw [c_4_0]; rfl) (by decide) ?_
      have h := h.1 c_4_0
      refine g_iload_n dX8_inAll_52 rfl ?_
      refine g_aload dX8_inAll_53 rfl ?_
      refine g_gfI fi_8_123 hp_3 dX8_inAll_55 ?_
      refine g_iadd dX8_inAll_58 ?_
      refine g_istore_n dX8_inAll_59 (by decide) (fun x3_5 ex3_5 => g_sub (lv' := [(0, .ref (D.2.2 8 r0)), (1, .int x1), (2, .int x2), (3, .int x3_5), (4, .int x4)]) [1, 2, 3, 0, 4] rfl ?_)
      have h := h x3_5 ex3_5
      refine g_goto (tgt := 104) dX8_inAll_60 (by decide) ?_
      exact g_sub [0, 1, 2, 3, 4] rfl h
    by_cases c_4_1 : x1 = (1 : Int32)
    · refine g_tableIn (off := 42) (tgt := 63) dX8_inAll_21 (by rw [c_4_1]; decide) (by rw [c_4_1]; decide) (by rw [c_4_1]; rfl) (by decide) ?_
      have h := h.2.1 c_4_1
      refine g_iload_n dX8_inAll_63 rfl ?_
      refine g_aload dX8_inAll_64 rfl ?_
      refine g_gfI fi_8_126 hp_3 dX8_inAll_66 ?_
      refine g_iadd dX8_inAll_69 ?_
      refine g_istore_n dX8_inAll_70 (by decide) (fun x3_6 ex3_6 => g_sub (lv' := [(0, .ref (D.2.2 8 r0)), (1, .int x1), (2, .int x2), (3, .int x3_6), (4, .int x4)]) [1, 2, 3, 0, 4] rfl ?_)
      have h := h x3_6 ex3_6
      refine g_goto (tgt := 104) dX8_inAll_71 (by decide) ?_
      exact g_sub [0, 1, 2, 3, 4] rfl h
    by_cases c_4_2 : x1 = (2 : Int32)
    · refine g_tableIn (off := 53) (tgt := 74) dX8_inAll_21 (by rw [c_4_2]; decide) (by rw [c_4_2]; decide) (by rw [c_4_2]; rfl) (by decide) ?_
      have h := h.2.2.1 c_4_2
      refine g_iload_n dX8_inAll_74 rfl ?_
      refine g_aload dX8_inAll_75 rfl ?_
      refine g_gfI fi_8_132 hp_3 dX8_inAll_77 ?_
      refine g_iadd dX8_inAll_80 ?_
      refine g_istore_n dX8_inAll_81 (by decide) (fun x3_7 ex3_7 => g_sub (lv' := [(0, .ref (D.2.2 8 r0)), (1, .int x1), (2, .int x2), (3, .int x3_7), (4, .int x4)]) [1, 2, 3, 0, 4] rfl ?_)
      have h := h x3_7 ex3_7
      refine g_goto (tgt := 104) dX8_inAll_82 (by decide) ?_
      exact g_sub [0, 1, 2, 3, 4] rfl h
    by_cases c_4_3 : x1 = (3 : Int32)
    · refine g_tableIn (off := 64) (tgt := 85) dX8_inAll_21 (by rw [c_4_3]; decide) (by rw [c_4_3]; decide) (by rw [c_4_3]; rfl) (by decide) ?_
      have h := h.2.2.2.1 c_4_3
      refine g_iload_n dX8_inAll_85 rfl ?_
      refine g_aload dX8_inAll_86 rfl ?_
      refine g_gfI fi_8_159 hp_3 dX8_inAll_88 ?_
      refine g_iadd dX8_inAll_91 ?_
      refine g_istore_n dX8_inAll_92 (by decide) (fun x3_8 ex3_8 => g_sub (lv' := [(0, .ref (D.2.2 8 r0)), (1, .int x1), (2, .int x2), (3, .int x3_8), (4, .int x4)]) [1, 2, 3, 0, 4] rfl ?_)
      have h := h x3_8 ex3_8
      refine g_goto (tgt := 104) dX8_inAll_93 (by decide) ?_
      exact g_sub [0, 1, 2, 3, 4] rfl h
    have c_4_o : (x1).toInt < 0 ∨ 3 < (x1).toInt := by
      have := lv_neT c_4_0 (a := 0) rfl
      have := lv_neT c_4_1 (a := 1) rfl
      have := lv_neT c_4_2 (a := 2) rfl
      have := lv_neT c_4_3 (a := 3) rfl
      omega
    refine g_tableOut (tgt := 96) dX8_inAll_21 c_4_o (by decide) ?_
    have h := h.2.2.2.2 ⟨c_4_0, c_4_1, c_4_2, c_4_3⟩
    refine g_iload_n dX8_inAll_96 rfl ?_
    refine g_aload dX8_inAll_97 rfl ?_
    refine g_gfI fi_8_120 hp_3 dX8_inAll_99 ?_
    refine g_iadd dX8_inAll_102 ?_
    refine g_istore_n dX8_inAll_103 (by decide) (fun x3_9 ex3_9 => g_sub (lv' := [(0, .ref (D.2.2 8 r0)), (1, .int x1), (2, .int x2), (3, .int x3_9), (4, .int x4)]) [1, 2, 3, 0, 4] rfl ?_)
    have h := h x3_9 ex3_9
    exact g_sub [0, 1, 2, 3, 4] rfl h
set_option maxRecDepth 20000 in
set_option maxHeartbeats 4000000 in
theorem bl_X8_inAll_2 {l : Launch} {D : gD} {d : Nat} {q : Int32 → gMem → Prop} {Γ : gC} {r0 : Nat} {x1 : Int32} {x2 : Int32} {x3 : Int32} {x4 : Int32} {μ : gMem} (hr0 : r0 < 3) (h : ∀ x4_1 : Int32, x4_1 = x4 + (1 : Int32) → pt_X8_inAll_1 l D d q Γ r0 x1 x2 x3 x4_1 μ) : pt_X8_inAll_2 l D d q Γ r0 x1 x2 x3 x4 μ := by
  unfold pt_X8_inAll_2
  refine g_iinc dX8_inAll_104 rfl (by decide) (fun x4_1 ex4_1 => g_sub (lv' := [(0, .ref (D.2.2 8 r0)), (1, .int x1), (2, .int x2), (3, .int x3), (4, .int x4_1)]) [1, 2, 3, 4, 0] rfl ?_)
  have h := h x4_1 ex4_1
  refine g_goto (tgt := 5) dX8_inAll_107 (by decide) ?_
  exact g_sub [0, 1, 2, 3, 4] rfl h
theorem en_X8_inAll {l : Launch} {D : gD} {d : Nat} {q : Int32 → gMem → Prop} {r0 : Nat} {x1 : Int32} {x2 : Int32} {μ : gMem} (h : ∀ Γ : gC, pt_X8_inAll_0 l D d q Γ r0 x1 x2 μ) : Ctr l D d yX8_inAll cX8_inAll 6 (some .int) [.ref (D.2.2 8 r0), .int x1, .int x2] μ (pI q) :=
  Ctr_of rfl (by decide) (Nat.le_of_ble_eq_true rfl) (fun Γ => g_sub [0, 1, 2] rfl (h Γ))
